/**
 * The Terms of the document: a test for each sentence that names a boundary case (too small, too large, empty, full,
 * a wrap-around, a refused text).
 */
public final class TermsTest extends Answers {
    public static void main(String[] args) {
        boards();
        texts();
        faults();
        faultsOfNumbers();
        faultsOfMany();
        marks();
        steps();
        solutions();
        draws();
        actsAndShelves();
        end();
    }

    // ---- I: boards ----

    private static void boards() {
        test("WIDE 1 to 6 by HIGH 1 to 6", TermsTest::sides);
        test("a CELL's name is a letter (a the first column) and a NUMBER (1 the first row), its number WIDE times (row"
                + " less 1) and the column (a 0)", TermsTest::cellNumbers);
        test("CELLS are OPEN or BLOCKS", TermsTest::openOrBlocks);
        test("16 OPEN ones at the most", TermsTest::sixteenOpen);
        test("DIGITS 1 to TOP (2 to 7)", TermsTest::tops);
        test("CAGES 0, 1, .., 12 at most", TermsTest::twelve);
        test("1 to 6 unlike OPEN CELLS, by rising numbers", TermsTest::cellsOfCages);
        test("a SORT: 0 sum, 1 product, 2 span (the greatest DIGIT less the least), 3 any (all is right)", TermsTest::sorts);
        test("a TOTAL (0 of any)", TermsTest::totalOfAny);
        test("UNLIKE (no DIGIT twice in it), or, if it was told so, ALIKE", TermsTest::alike);
    }

    private static void sides() {
        for (int wide = 1; wide <= 6; wide++) {
            for (int high = 1; high <= 6; high++) {
                String text = "board " + wide + " " + high + " top 2;block " + names(wide, 0, wide * high, -1);
                CrossSums x = told(text);
                due("count(0) of " + text, x.count(0), wide);
                due("count(1) of " + text, x.count(1), high);
                due("the last cell of " + text, x.cell(wide * high - 1, 0), 0);
                due("the cell behind the last of " + text, x.cell(wide * high, 0), -1);
            }
            fault("board " + wide + " 0 top 2", 8, 2);
            fault("board " + wide + " 7 top 2", 8, 2);
            fault("board 0 " + wide + " top 2", 6, 2);
            fault("board 7 " + wide + " top 2", 6, 2);
        }
        fault("board 4294967297 1 top 2", 6, 2);
        fault("board 1 18446744073709551617 top 2", 8, 2);
    }

    private static void cellNumbers() {
        int[][] boards = {{6, 6}, {1, 6}, {6, 1}, {2, 5}, {5, 3}};
        for (int[] b : boards) {
            for (int c = 0; c < b[0] * b[1]; c++) {
                String others = names(b[0], 0, b[0] * b[1], c);
                CrossSums x = told("board " + b[0] + " " + b[1] + " top 2;block " + others + ";given " + name(b[0], c) + " 2");
                for (int other = 0; other < b[0] * b[1]; other++) {
                    due("cell(" + other + ", 2) for " + name(b[0], c), x.cell(other, 2), other == c ? 1 : 0);
                }
            }
        }
    }

    private static void openOrBlocks() {
        CrossSums x = told("board 2 1 top 2;block a1");
        due("cell(0, 0)", x.cell(0, 0), 0);
        due("cell(1, 0)", x.cell(1, 0), 1);
        fine("board 2 1 top 2;block b1 a1", "board 2 1 top 2;block a1 b1");
    }

    private static void sixteenOpen() {
        due("16 of 16", told("board 4 4 top 2").count(3), 16);
        due("16 of 18", told("board 6 3 top 2;block a1f3").count(3), 16);
        due("16 of 36", told("board 6 6 top 2;block " + names(6, 16, 36, -1)).count(3), 16);
        fault("board 6 3 top 2;block f3", 24, 4);
        fault("board 6 3 top 2", 15, 4);
        fault("board 6 6 top 2;block " + names(6, 17, 36, -1), 60, 4);
    }

    private static void tops() {
        for (int top = 2; top <= 7; top++) {
            CrossSums x = told("board 1 1 top " + top);
            due("count(2)", x.count(2), top);
            due("cell(0, 3) of top " + top, x.cell(0, 3), (1 << (top + 1)) - 2);
            due("put of 0", x.put(0, 0), -1);
            due("put of one behind top", x.put(0, top + 1), -1);
            due("put of top", x.put(0, top), 1);
            x.lift(0);
            due("put of 1", x.put(0, 1), 1);
        }
        fault("board 1 1 top 0", 14, 2);
        fault("board 1 1 top 1", 14, 2);
        fault("board 1 1 top 8", 14, 2);
        fault("board 1 1 top 10", 14, 2);
    }

    private static void twelve() {
        CrossSums x = told(twelveCages());
        due("count(4)", x.count(4), 12);
        due("cage(11, 2)", x.cage(11, 2), 3);
        due("cage(12, 2)", x.cage(12, 2), -1);
        due("cell(3, 4)", x.cell(3, 4), 0x924);
        due("cell(0, 4)", x.cell(0, 4), 0x249);
        due("count(4) of none", told("board 3 3 top 2").count(4), 0);
        due("cage(0, 2) of none", told("board 3 3 top 2").cage(0, 2), -1);
        fault(twelveCages() + ";cage any a1", twelveCages().length() + 1, 3);
    }

    private static void cellsOfCages() {
        CrossSums x = told("board 3 2 top 7;cage any c2;cage any c2 a1 b2 c1 b1 a2;cage any c1 a2 b1");
        int[][] cells = {{5}, {0, 1, 2, 3, 4, 5}, {1, 2, 3}};
        for (int k = 0; k < 3; k++) {
            due("cage(" + k + ", 2)", x.cage(k, 2), cells[k].length);
            for (int i = 0; i < cells[k].length; i++) {
                due("cage(" + k + ", " + (10 + i) + ")", x.cage(k, 10 + i), cells[k][i]);
            }
            due("behind the last of " + k, x.cage(k, 10 + cells[k].length), -1);
        }
        fault("board 3 2 top 7;cage any", 24, 1);
        fault("board 3 2 top 7;cage any;", 24, 1);
        fault("board 3 3 top 7;cage any a1b1c1a2b2c2a3", 37, 3);
        fault("board 3 2 top 7;cage any a1 b1 a1", 32, 2);
        fault("board 3 2 top 7;block b1;cage any a1 b1", 38, 2);
    }

    private static void sorts() {
        CrossSums x = told("board 3 1 top 7;cage sum 7 a1b1;cage product 7 a1b1;cage span 6 a1b1;cage any a1b1"
                + ";cage span 0 c1;cage span 6 alike a1b1c1");
        int[] ways = {6, 2, 2, 42, 7, 36};
        int[] sorts = {0, 1, 2, 3, 2, 2};
        for (int k = 0; k < 6; k++) {
            due("cage(" + k + ", 0)", x.cage(k, 0), sorts[k]);
            due("cage(" + k + ", 5)", x.cage(k, 5), ways[k]);
        }
        x = told("board 3 2 top 7;cage product 117649 alike a1b1c1a2b2c2;cage sum 42 alike a1b1c1a2b2c2"
                + ";cage sum 43 alike a1b1c1a2b2c2;cage product 117650 alike a1b1c1a2b2c2;cage sum 6 alike a1b1c1a2b2c2"
                + ";cage product 1 alike a1b1c1a2b2c2;cage sum 5 alike a1b1c1a2b2c2;cage product 0 alike a1b1c1a2b2c2");
        int[] most = {1, 1, 0, 0, 1, 1, 0, 0};
        for (int k = 0; k < 8; k++) {
            due("cage(" + k + ", 5) of six", x.cage(k, 5), most[k]);
        }
    }

    private static void totalOfAny() {
        CrossSums x = told("board 2 1 top 3;across a1 any;across a1 any alike");
        due("cage(0, 1)", x.cage(0, 1), 0);
        due("cage(1, 1)", x.cage(1, 1), 0);
        x.make(3);
        due("cage(0, 1) behind make", x.cage(0, 1), 0);
        due("cage(1, 1) behind make", x.cage(1, 1), 0);
    }

    private static void alike() {
        CrossSums x = told("board 2 1 top 3;across a1 sum 4;across a1 sum 4 alike;across a1 any;across a1 any alike"
                + ";across a1 product 4;cage product 4 alike a1 b1;across a1 span 0;across a1 span 0 alike");
        int[] ways = {2, 3, 6, 9, 0, 1, 0, 3};
        for (int k = 0; k < 8; k++) {
            due("cage(" + k + ", 3)", x.cage(k, 3), k % 2 == 0 ? 1 : 0);
            due("cage(" + k + ", 5)", x.cage(k, 5), ways[k]);
        }
    }

    // ---- I: texts ----

    private static void texts() {
        test("A TEXT of at most 400 bytes", TermsTest::fourHundred);
        test("board WIDE HIGH top NUMBER { ; PART }", TermsTest::parts);
        test("block CELL { CELL }", TermsTest::blockParts);
        test("given CELL NUMBER", TermsTest::givenParts);
        test("TOTAL [ alike ]", TermsTest::alikeWords);
        test("sum NUMBER (0 to 99) | product NUMBER (0 to 999999) | span NUMBER (0 to 6) | any", TermsTest::toldTotals);
        test("across: from that CELL on to the right up to the next BLOCK, or the end", TermsTest::acrossLines);
        test("down: likewise downwards", TermsTest::downLines);
        test("(BLOCKS told ahead)", TermsTest::blocksAhead);
        test("CELL: a small letter, right behind it its NUMBER", TermsTest::cellForms);
        test("WORDS are small letters, as far as they go on", TermsTest::wordsGoOn);
        test("NUMBERS digits, as far as they go on", TermsTest::numbersGoOn);
        test("blanks (32) stand between as one likes", TermsTest::blanks);
    }

    private static void fourHundred() {
        CrossSums x = new CrossSums();
        feed(x, filled("board 1 1 top 2", 400));
        due("count(9)", x.count(9), 400);
        due("tell of 400 bytes", x.tell(), 0);
        due("count(2)", x.count(2), 2);
        fault(filled("board 1 1 top", 400), 400, 1);
        fault(filled("board 1 1 top 2", 399) + "x", 399, 1);
        fault(filled("board 1 1 top", 398) + "08", 398, 2);
        fault(filled("board 6 3 top 2", 400), 400, 4);
        String full = filled(twelveCages(), 389) + ";given c3 2";
        due("length", full.length(), 400);
        due("cell(8, 1) by the last byte", told(full).cell(8, 1), 2);
    }

    private static void parts() {
        fine("board 2 1 top 3", "board 2 1 top 3");
        fine("board 3 2 top 3;given c1 3;down a1 any;block b1;given a1 1;across a2 any;cage any c1",
                "board 3 2 top 3;block b1;cage any a1 a2;cage any a2 b2 c2;cage any c1;given a1 1;given c1 3");
        fault("board 2 1 top 3;", 16, 1);
        fault("board 2 1 top 3;;cage any a1", 16, 1);
        fault("board 2 1 top 3;cage any a1;", 28, 1);
        fault("board 2 1 top 3 cage any a1", 16, 1);
        fault("board 2 1 top 3;board 2 1 top 3", 16, 1);
        fault("board 2 1 top 3;any a1", 16, 1);
        fault("board 2 1 3", 10, 1);
        fault("2 1 top 3", 0, 1);
        fault(";board 2 1 top 3", 0, 1);
        fault("board;2 1 top 3", 5, 1);
    }

    private static void blockParts() {
        fine("board 3 1 top 3;block c1 a1", "board 3 1 top 3;block a1 c1");
        fine("board 3 1 top 3;block c1;block a1", "board 3 1 top 3;block a1 c1");
        fine("board 1 1 top 3;block a1", "board 1 1 top 3;block a1");
        fault("board 3 1 top 3;block", 21, 1);
        fault("board 3 1 top 3;block ;given a1 1", 22, 1);
        fault("board 3 1 top 3;block a1 1", 25, 1);
    }

    private static void givenParts() {
        fine("board 3 1 top 3;given c1 3;given a1 1", "board 3 1 top 3;given a1 1;given c1 3");
        fault("board 3 1 top 3;given", 21, 1);
        fault("board 3 1 top 3;given 1 a1", 22, 1);
        fault("board 3 1 top 3;given a1", 24, 1);
        fault("board 3 1 top 3;given a1;", 24, 1);
        fault("board 3 1 top 3;given a1 b1 1", 25, 1);
        fault("board 3 1 top 3;given a1 1 b1 2", 27, 1);
        fault("board 3 1 top 3;given a1 0", 25, 2);
        fault("board 3 1 top 3;given a1 4", 25, 2);
    }

    private static void alikeWords() {
        fine("board 2 1 top 3;across a1 sum 4 alike;down a1 any alike;cage span 2 alike b1 a1",
                "board 2 1 top 3;cage sum 4 alike a1 b1;cage any alike a1;cage span 2 alike a1 b1");
        fault("board 2 1 top 3;across a1 alike sum 4", 26, 1);
        fault("board 2 1 top 3;cage alike sum 4 a1", 21, 1);
        fault("board 2 1 top 3;across a1 sum alike", 30, 1);
        fault("board 2 1 top 3;down a1 any alike alike", 34, 1);
        fault("board 2 1 top 3;across a1 sum 4 a1", 32, 1);
        fault("board 2 1 top 3;cage any alike", 30, 1);
        fault("board 2 1 top 3;cage any like a1", 25, 1);
    }

    private static void toldTotals() {
        CrossSums x = told("board 1 1 top 2;cage sum 0 a1;cage sum 99 a1;cage product 0 a1;cage product 999999 a1"
                + ";cage span 0 a1;cage span 6 a1;cage any a1;across a1 sum 99;down a1 product 999999");
        int[] totals = {0, 99, 0, 999999, 0, 6, 0, 99, 999999};
        for (int k = 0; k < totals.length; k++) {
            due("cage(" + k + ", 1)", x.cage(k, 1), totals[k]);
        }
        fault("board 1 1 top 2;cage sum 100 a1", 25, 2);
        fault("board 1 1 top 2;across a1 sum 100", 30, 2);
        fault("board 1 1 top 2;cage product 1000000 a1", 29, 2);
        fault("board 1 1 top 2;down a1 product 1000000", 32, 2);
        fault("board 1 1 top 2;cage span 7 a1", 26, 2);
        fault("board 1 1 top 2;cage any 0 a1", 25, 1);
        fault("board 1 1 top 2;cage sum -1 a1", 25, 1);
        fault("board 1 1 top 2;cage sum 4294967296 a1", 25, 2);
        fault("board 1 1 top 2;cage sum a1", 25, 1);
        fault("board 1 1 top 2;cage 5 a1", 21, 1);
    }

    private static void acrossLines() {
        fine("board 6 1 top 7;across a1 any", "board 6 1 top 7;cage any a1 b1 c1 d1 e1 f1");
        fine("board 6 2 top 7;across f1 any", "board 6 2 top 7;cage any f1");
        fine("board 6 2 top 7;across d1 any;across e2 any", "board 6 2 top 7;cage any d1 e1 f1;cage any e2 f2");
        fine("board 6 2 top 7;block c1a2;across a1 any;across d1 any;across b1 any;across b2 any",
                "board 6 2 top 7;block c1 a2;cage any a1 b1;cage any d1 e1 f1;cage any b1;cage any b2 c2 d2 e2 f2");
        fine("board 1 3 top 7;across a2 any", "board 1 3 top 7;cage any a2");
    }

    private static void downLines() {
        fine("board 1 6 top 7;down a1 any", "board 1 6 top 7;cage any a1 a2 a3 a4 a5 a6");
        fine("board 2 6 top 7;down b6 any", "board 2 6 top 7;cage any b6");
        fine("board 2 6 top 7;down a4 any;down b5 any", "board 2 6 top 7;cage any a4 a5 a6;cage any b5 b6");
        fine("board 2 6 top 7;block a3b1;down a1 any;down a4 any;down a2 any;down b2 any",
                "board 2 6 top 7;block b1 a3;cage any a1 a2;cage any a4 a5 a6;cage any a2;cage any b2 b3 b4 b5 b6");
        fine("board 3 1 top 7;down b1 any", "board 3 1 top 7;cage any b1");
    }

    private static void blocksAhead() {
        fine("board 3 1 top 3;block b1;across a1 any", "board 3 1 top 3;block b1;cage any a1");
        fine("board 3 2 top 3;across a1 any;block b2;down a1 any;across a2 any",
                "board 3 2 top 3;block b2;cage any a1 b1 c1;cage any a1 a2;cage any a2");
        fault("board 3 1 top 3;across a1 any;block b1", 37, 2);
    }

    private static void cellForms() {
        fine("board 2 2 top 3;cage any b2a1", "board 2 2 top 3;cage any a1 b2");
        fine("board 2 2 top 3;cage any b02 a001", "board 2 2 top 3;cage any a1 b2");
        fault("board 2 2 top 3;cage any a", 26, 1);
        fault("board 2 2 top 3;cage any a 1", 26, 1);
        fault("board 2 2 top 3;cage any ab1", 26, 1);
        fault("board 2 2 top 3;cage any 1a", 25, 1);
        fault("board 2 2 top 3;cage any A1", 25, 1);
        fault("board 2 2 top 3;given a;", 23, 1);
        fault("board 2 2 top 3;down a any", 22, 1);
    }

    private static void wordsGoOn() {
        fine("board1 1top2;cage any a1;cage sum9a1", "board 1 1 top 2;cage any a1;cage sum 9 a1");
        fine("board 2 1 top 2;cage sum3alike a1b1", "board 2 1 top 2;cage sum 3 alike a1 b1");
        fault("boardx 1 1 top 2", 0, 1);
        fault("boarda 1 1 top 2", 0, 1);
        fault("boardz 1 1 top 2", 0, 1);
        fault("boar", 0, 1);
        fault("bOard 1 1 top 2", 0, 1);
        fault("board 1 1 topx 2", 10, 1);
        fault("board 1 1 to", 10, 1);
        fault("board 1 1 top 2;blocka1", 16, 1);
        fault("board 1 1 top 2;cageany a1", 16, 1);
        fault("board 1 1 top 2;cages any a1", 16, 1);
        fault("board 1 1 top 2;acrossa1 any", 16, 1);
        fault("board 1 1 top 2;downa1 any", 16, 1);
        fault("board 1 1 top 2;givena1 1", 16, 1);
        fault("board 1 1 top 2;cage anya1", 21, 1);
        fault("board 1 1 top 2;cage sums 3 a1", 21, 1);
        fault("board 1 1 top 2;across a1 any alikea", 30, 1);
        fault("board 1 1 top 2;across a1 anyalike", 26, 1);
    }

    private static void numbersGoOn() {
        fine("board 0001 00000000000000000000001 top 000000000000000007", "board 1 1 top 7");
        fine("board 1 1 top 2;cage sum 0000000000000000000000099 a1;given a1 01", "board 1 1 top 2;cage sum 99 a1;given a1 1");
        fault("board 11 top 2", 6, 2);
        fault("board 1 11 top 2", 8, 2);
        fault("board 1 1 top 22", 14, 2);
        fault("board 2 2 top 3;cage any a11", 26, 2);
        fault("board 2 2 top 3;given a1 12", 25, 2);
        fault("board 1 1 top 2 2", 16, 1);
        fault("board 1 1 1 top 2", 10, 1);
        fault("board 1 1 top 20000000000000000000000000000002", 14, 2);
    }

    private static void blanks() {
        fine("  board   1  1   top  2  ;  cage   any   a1  ;  given  a1  2  ", "board 1 1 top 2;cage any a1;given a1 2");
        fine("board1 1top2;block a1", "board 1 1 top 2;block a1");
        fine("board 2 1 top 2;cage product2alike b1a1;given b1 2", "board 2 1 top 2;cage product 2 alike a1 b1;given b1 2");
        fault("board\t1 1 top 2", 5, 1);
        fault("board 1 1 top 2\n", 15, 1);
        fault("board 1 1 top 2\u00a0", 15, 1);
        fault("board 1 1 top 2\0", 15, 1);
        fault("bo ard 1 1 top 2", 0, 1);
        fault("board 1 1 t op 2", 10, 1);
    }

    // ---- I: faults ----

    private static void faults() {
        test("8 times its place (0 the first byte)", TermsTest::places);
        test("FAULT of a text that is none, the first that is met as it is read", TermsTest::firstFaults);
        test("1 a byte that cannot stand there", TermsTest::unfitBytes);
        test("1 a WORD that cannot stand there", TermsTest::unfitWords);
        test("(a CELL's letter of no column, too)", TermsTest::noColumns);
        test("or the text ends (the place behind its last byte)", TermsTest::endings);
    }

    private static void places() {
        fault("x", 0, 1);
        fault(" x", 1, 1);
        fault(filled("", 399) + "x", 399, 1);
        fault("", 0, 1);
        fault("board 9 1 top 2", 6, 2);
    }

    private static void firstFaults() {
        fault("board 7 7 top 8;x", 6, 2);
        fault("board 1 7 top 8;x", 8, 2);
        fault("board 1 1 top 8;x", 14, 2);
        fault("board 6 6 top 2;block a7;x", 23, 2);
        fault("board 2 2 top 2;cage any a3 c1", 26, 2);
        fault("board 2 2 top 2;cage any c1 a3", 25, 1);
        fault("board 2 2 top 2;given a3 9", 23, 2);
        fault("board 2 2 top 2;given a2 9 x", 25, 2);
        fault("board 2 2 top 2;cage sum 100 c9", 25, 2);
    }

    private static void unfitBytes() {
        fault("?", 0, 1);
        fault("board ? 1 top 2", 6, 1);
        fault("board 1 ? top 2", 8, 1);
        fault("board 1 1 ?", 10, 1);
        fault("board 1 1 top ?", 14, 1);
        fault("board 1 1 top 2?", 15, 1);
        fault("board 1 1 top 2;?", 16, 1);
        fault("board 1 1 top 2;cage ?", 21, 1);
        fault("board 1 1 top 2;cage sum ?", 25, 1);
        fault("board 1 1 top 2;cage any ?", 25, 1);
        fault("board 1 1 top 2;cage any a?", 26, 1);
        fault("board 1 1 top 2;cage any a1?", 27, 1);
        fault("board 1 1 top 2;block a1?", 24, 1);
        fault("board 1 1 top 2;across ?", 23, 1);
        fault("board 1 1 top 2;across a1 ?", 26, 1);
        fault("board 1 1 top 2;across a1 any ?", 30, 1);
        fault("board 1 1 top 2;given a1 ?", 25, 1);
        fault("board 1 1 top 2;given a1 1?", 26, 1);
        fault("board 1 1 top 2\u00ff", 15, 1);
        fault("board 1 1 top 2;cage any \u0080", 25, 1);
    }

    private static void unfitWords() {
        // Each word with one letter changed, at its place.
        String text = "board 2 2 top 3;block b2;given a1 1;cage sum 3 a2;down a1 product 3;across a1 span 1;cage any a1";
        for (String word : new String[] {"board", "top", "block", "given", "cage", "sum", "down", "product", "across", "span", "any"}) {
            int place = text.indexOf(word);
            for (int i = 0; i < word.length(); i++) {
                fault(text.substring(0, place + i) + "x" + text.substring(place + i + 1), place, 1);
            }
        }
        for (int i = 0; i < 5; i++) {
            String word = new StringBuilder("alike").replace(i, i + 1, "x").toString();
            fault("board 2 2 top 3;across a1 any " + word, 30, 1);
        }
        fault("boards", 0, 1);
        fault("top 2", 0, 1);
        fault("board board", 6, 1);
        fault("board 1 top 2", 8, 1);
        fault("board 1 1 cage", 10, 1);
        fault("board 1 1 top top", 14, 1);
        fault("board 1 1 top 2 cage any a1", 16, 1);
        fault("board 1 1 top 2;alike", 16, 1);
        fault("board 1 1 top 2;cage given", 21, 1);
        fault("board 1 1 top 2;across any a1", 24, 1);
        fault("board 1 1 top 2;across sum 1", 23, 1);
        fault("board 1 1 top 2;down a1 down", 24, 1);
        fault("board 1 1 top 2;given a1 any", 25, 1);
    }

    private static void noColumns() {
        fault("board 2 2 top 3;cage any c1", 25, 1);
        fault("board 2 2 top 3;cage any a1 c1", 28, 1);
        fault("board 2 2 top 3;across c1 any", 23, 1);
        fault("board 2 2 top 3;down z1 any", 21, 1);
        fault("board 2 2 top 3;given c1 1", 22, 1);
        fault("board 2 2 top 3;block c1", 22, 1);
        fault("board 6 2 top 3;block g1", 22, 1);
        fault("board 2 2 top 3;block `1", 22, 1);
        fine("board 6 2 top 3;block f1", "board 6 2 top 3;block f1");
    }

    private static void endings() {
        String board = "board 2 2 top 3";
        String[] open = {"", "board", "board 2", "board 2 2", "board 2 2 top", board + ";", board + ";block",
            board + ";given", board + ";given a1", board + ";cage", board + ";cage sum", board + ";cage sum 3",
            board + ";cage sum 3 alike", board + ";cage any", board + ";across", board + ";across a1",
            board + ";across a1 sum", board + ";down", board + ";down a1", board + ";down a1 product", board + ";cage any a1;"};
        for (String text : open) {
            fault(text, text.length(), 1);
            fault(text + "  ", text.length() + 2, 1);
        }
        // Right behind a CELL's letter no blank can stand either.
        String[] letters = {";block a", ";block a1 b", ";given a", ";cage any a", ";cage any a1b", ";across a", ";down a"};
        for (String part : letters) {
            String text = board + part;
            fault(text, text.length(), 1);
            fault(text + "  ", text.length(), 1);
        }
        String[] whole = {"", ";block a1", ";given a1 1", ";cage sum 3 a1", ";cage any alike a1", ";across a1 any",
            ";across a1 sum 3", ";down a1 any alike"};
        for (String part : whole) {
            due("tell of [" + board + part + "]", tell(new CrossSums(), board + part) >= 0 ? 1 : 0, 1);
            due("tell of [" + board + part + "  ]", tell(new CrossSums(), board + part + "  ") >= 0 ? 1 : 0, 1);
        }
    }

    private static void faultsOfNumbers() {
        test("2 a NUMBER (where it begins) that is not as told", TermsTest::numbersBegin);
        test("(a CELL's: no such row", TermsTest::noRows);
        test("or the CELL is a BLOCK", TermsTest::cellIsBlock);
        test("or in a cage it was told in that cage", TermsTest::cellTwice);
        test("in block it is in a CAGE or given", TermsTest::blockInCage);
        test("in given it is given)", TermsTest::givenTwice);
    }

    private static void numbersBegin() {
        fault("board   7 1 top 2", 8, 2);
        fault("board 0007 1 top 2", 6, 2);
        fault("board7 1 top 2", 5, 2);
        fault("board 1   0 top 2", 10, 2);
        fault("board 1 1 top   8", 16, 2);
        fault("board 1 1 top 2;cage sum   100 a1", 27, 2);
        fault("board 1 1 top 2;cage sum00100 a1", 24, 2);
        fault("board 1 1 top 2;cage any   a02", 28, 2);
        fault("board 1 1 top 2;given a1   003", 27, 2);
    }

    private static void noRows() {
        fault("board 2 3 top 2;block a4", 23, 2);
        fault("board 2 3 top 2;block a0", 23, 2);
        fault("board 2 3 top 2;cage any b4", 26, 2);
        fault("board 2 3 top 2;cage any b00", 26, 2);
        fault("board 2 3 top 2;across b4 any", 24, 2);
        fault("board 2 3 top 2;down b0 any", 22, 2);
        fault("board 2 3 top 2;given a4 1", 23, 2);
        fault("board 6 6 top 2;block f7", 23, 2);
        fault("board 2 3 top 2;block a4294967297", 23, 2);
        fine("board 2 3 top 2;block a3 b1", "board 2 3 top 2;block b1 a3");
    }

    private static void cellIsBlock() {
        fault("board 2 2 top 2;block b2;block b2", 32, 2);
        fault("board 2 2 top 2;block b2 b2", 26, 2);
        fault("board 2 2 top 2;block b2;cage any b2", 35, 2);
        fault("board 2 2 top 2;block b2;cage any a1 b2", 38, 2);
        fault("board 2 2 top 2;block b2;across b2 any", 33, 2);
        fault("board 2 2 top 2;block b2;down b2 any", 31, 2);
        fault("board 2 2 top 2;block b2;given b2 1", 32, 2);
    }

    private static void cellTwice() {
        fault("board 2 2 top 2;cage any a1a1", 28, 2);
        fault("board 2 2 top 2;cage any alike b2 a1 b02", 38, 2);
        fine("board 2 2 top 2;cage any a1;cage any a1;across a1 any", "board 2 2 top 2;cage any a1;cage any a1;cage any a1 b1");
        fine("board 2 2 top 2;cage any a2;given a2 1;cage any a2", "board 2 2 top 2;cage any a2;cage any a2;given a2 1");
    }

    private static void blockInCage() {
        fault("board 2 2 top 2;cage any a1;block a1", 35, 2);
        fault("board 2 2 top 2;across a1 any;block b1", 37, 2);
        fault("board 2 2 top 2;down a1 any;block b1 a2", 38, 2);
        fault("board 2 2 top 2;given a1 2;block a1", 34, 2);
        fine("board 2 2 top 2;across a1 any;block b2", "board 2 2 top 2;block b2;cage any a1 b1");
        fine("board 2 2 top 2;given a1 2;block b1", "board 2 2 top 2;block b1;given a1 2");
    }

    private static void givenTwice() {
        fault("board 2 2 top 2;given a1 2;given a1 2", 34, 2);
        fault("board 2 2 top 2;given a1 2;given b1 1;given a1 1", 45, 2);
        fault("board 2 2 top 2;given a1 2;given a1 9", 34, 2);
    }

    private static void faultsOfMany() {
        test("3 the WORD of a 13th CAGE", TermsTest::thirteenth);
        test("the letter of a seventh CELL of a cage", TermsTest::seventh);
        test("4 (the place behind the last byte) more than 16 CELLS are OPEN", TermsTest::tooOpen);
        test("Of one place the least", TermsTest::leastOfOnePlace);
    }

    private static void thirteenth() {
        int end = twelveCages().length();
        for (String part : new String[] {"cage any a1", "across a1 any", "down a1 any", "cage", "across", "down?", "cage 5"}) {
            fault(twelveCages() + ";" + part, end + 1, 3);
            fault(twelveCages() + " ;  " + part, end + 4, 3);
        }
        due("twelve and other parts", told(twelveCages() + ";block c3;given a1 1").count(4), 12);
        fault(twelveCages() + ";block a1", end + 8, 2);
    }

    private static void seventh() {
        String six = "board 4 4 top 2;cage any a1b1c1d1a2b2";
        due("six", told(six).cage(0, 2), 6);
        fault(six + "c2", 37, 3);
        fault(six + "   d4", 40, 3);
        fault(six + "a1", 37, 3);
        fault(six + "c9", 37, 3);
        fault(six + "c", 37, 3);
        fault("board 4 4 top 2;cage sum 99 alike a1b1c1d1a2b2c2", 46, 3);
        due("six of a line", told("board 6 1 top 7;across a1 any").cage(0, 2), 6);
    }

    private static void tooOpen() {
        fault("board 5 4 top 3", 15, 4);
        fault("board 5 4 top 3   ", 18, 4);
        fault("board 5 4 top 3;block a1b1c1", 28, 4);
        fault("board 5 4 top 3;cage any a1;given b1 3", 38, 4);
        due("16 by a block behind all else", tell(new CrossSums(), "board 5 4 top 3;cage any a1;given b1 3;block a4b4c4d4"), 1);
        fault("board 6 6 top 3", 15, 4);
    }

    private static void leastOfOnePlace() {
        // 1 and 4: the text ends where it cannot, and more than 16 are open.
        fault("board 5 4 top 3;", 16, 1);
        fault("board 5 4 top 3;cage any", 24, 1);
        // 1 and 3: the seventh letter is of no column, the 13th word is none.
        fault("board 4 4 top 2;cage any a1b1c1d1a2b2e1", 37, 1);
        fault("board 4 4 top 2;cage any a1b1c1d1a2b2?", 37, 1);
        fault(twelveCages() + ";cages any a1", twelveCages().length() + 1, 1);
        fault(twelveCages() + ";sum", twelveCages().length() + 1, 1);
    }

    // ---- II: marks and steps ----

    private static void marks() {
        test("MARKS of an OPEN CELL: all at first", TermsTest::allAtFirst);
        test("that alone if it is given", TermsTest::givenMarks);
        test("DONE: given, or PUT", TermsTest::done);
        test("PUT: that DIGIT is its only MARK then", TermsTest::putMarks);
        test("A WAY of a CAGE: for each of its CELLS one of its MARKS, with the TOTAL", TermsTest::ways);
        test("none twice if it is UNLIKE", TermsTest::unlikeWays);
        test("BROKEN: some OPEN CELL has no MARK", TermsTest::cellBroken);
        test("or some CAGE no WAY", TermsTest::cageBroken);
    }

    private static void allAtFirst() {
        CrossSums x = told("board 3 1 top 7;block b1;across a1 any");
        due("cell(0, 3)", x.cell(0, 3), 254);
        due("cell(1, 3) of a block", x.cell(1, 3), 0);
        due("cell(2, 3)", x.cell(2, 3), 254);
        due("cell(0, 3) of top 2", told("board 1 1 top 2").cell(0, 3), 6);
    }

    private static void givenMarks() {
        CrossSums x = told("board 3 1 top 7;given a1 1;given c1 7");
        due("cell(0, 3)", x.cell(0, 3), 2);
        due("cell(1, 3)", x.cell(1, 3), 254);
        due("cell(2, 3)", x.cell(2, 3), 128);
    }

    private static void done() {
        CrossSums x = told("board 3 1 top 3;across a1 any;given a1 1");
        x.strike(2, 1);
        x.strike(2, 2);
        due("count(6): one mark alone is not done", x.count(6), 1);
        due("cell(2, 1)", x.cell(2, 1), 0);
        x.put(1, 2);
        due("count(6)", x.count(6), 2);
        due("cage(0, 4)", x.cage(0, 4), 2);
        x.put(2, 3);
        due("count(6)", x.count(6), 3);
        due("cage(0, 4)", x.cage(0, 4), 3);
        x.lift(1);
        due("count(6)", x.count(6), 2);
    }

    private static void putMarks() {
        CrossSums x = told("board 2 1 top 7");
        x.put(0, 7);
        x.put(1, 1);
        due("cell(0, 3)", x.cell(0, 3), 128);
        due("cell(1, 3)", x.cell(1, 3), 2);
    }

    private static void ways() {
        CrossSums x = told("board 2 1 top 7;cage sum 8 a1b1;cage product 12 a1b1;cage span 6 a1b1;cage any a1b1");
        int[] all = {6, 4, 2, 42};
        for (int k = 0; k < 4; k++) {
            due("cage(" + k + ", 5)", x.cage(k, 5), all[k]);
        }
        x.strike(0, 1);
        x.strike(0, 2);
        int[] left = {4, 3, 1, 30};
        for (int k = 0; k < 4; k++) {
            due("cage(" + k + ", 5) without 1 and 2 in a1", x.cage(k, 5), left[k]);
        }
        x.put(1, 1);
        int[] last = {1, 0, 1, 5};
        for (int k = 0; k < 4; k++) {
            due("cage(" + k + ", 5) with 1 in b1", x.cage(k, 5), last[k]);
        }
    }

    private static void unlikeWays() {
        CrossSums x = told("board 3 1 top 2;across a1 any;across a1 any alike;cage any a1 b1;across a1 sum 4"
                + ";across a1 sum 4 alike;across a1 span 0 alike;across a1 span 0;cage span 0 a1");
        int[] ways = {0, 8, 2, 0, 3, 2, 0, 2};
        for (int k = 0; k < ways.length; k++) {
            due("cage(" + k + ", 5)", x.cage(k, 5), ways[k]);
        }
    }

    private static void cellBroken() {
        CrossSums x = told("board 2 1 top 2;block a1");
        due("broken(0): a block has no marks either", x.broken(0), 0);
        x.strike(1, 1);
        due("broken(0) with one mark", x.broken(0), 0);
        x.strike(1, 2);
        due("broken(0) without", x.broken(0), 1);
        due("next(0)", x.next(0), 0);
    }

    private static void cageBroken() {
        CrossSums x = told("board 2 1 top 2;cage sum 3 a1 b1");
        due("broken(0)", x.broken(0), 0);
        x.total(0, 4);
        due("broken(0) of 4", x.broken(0), 1);
        x.total(0, 2);
        due("broken(0) of 2", x.broken(0), 1);
        x = told("board 2 1 top 2;cage sum 4 alike a1 b1;cage sum 2 alike a1 b1");
        due("broken(0): each for itself has a way", x.broken(0), 0);
    }

    private static void steps() {
        test("A STEP, the first of these that can be", TermsTest::stepOrder);
        test("(none, if it is BROKEN)", TermsTest::noStepIfBroken);
        test("ALONE: the first CELL that is not DONE, with one MARK: that is PUT", TermsTest::aloneFirst);
        test("WAYS: the first CAGE, in it the first CELL, of it the least MARK that it has in no WAY: it is struck",
                TermsTest::waysFirst);
        test("MUST and TWINS come behind WAYS", TermsTest::mustAndTwins);
    }

    private static void stepOrder() {
        CrossSums x = told("board 2 1 top 3;cage sum 1 a1");
        due("next(0)", x.next(0), 2);
        x.strike(1, 1);
        x.strike(1, 2);
        due("next(0): ALONE of a later cell", x.next(0), 1);
        due("next(2)", x.next(2), 1);
        x = told("board 2 1 top 3;cage any a1;given a1 1");
        due("next(0) of none", x.next(0), 0);
        x = told("board 1 1 top 3;block a1");
        due("next(0) of blocks alone", x.next(0), 0);
    }

    private static void noStepIfBroken() {
        CrossSums x = told("board 3 1 top 3;cage sum 1 a1;cage sum 4 c1");
        x.strike(1, 1);
        x.strike(1, 2);
        due("next(0): neither WAYS nor ALONE", x.next(0), 0);
        due("next(1)", x.next(1), -2);
        x.total(1, 3);
        due("next(0) when it is not broken", x.next(0), 1);
    }

    private static void aloneFirst() {
        CrossSums x = told("board 3 1 top 2;given a1 1");
        x.strike(2, 1);
        x.strike(1, 2);
        due("next(0)", x.next(0), 1);
        due("next(1)", x.next(1), -2);
        due("next(2)", x.next(2), 1);
        due("next(3)", x.next(3), 1);
        due("step()", x.step(), 1);
        due("cell(1, 1)", x.cell(1, 1), 1);
        due("next(2)", x.next(2), 2);
        due("next(3)", x.next(3), 2);
        due("step()", x.step(), 1);
        due("cell(2, 1)", x.cell(2, 1), 2);
        due("lift: it was PUT", x.lift(2), 2);
        due("next(0)", x.next(0), 0);
    }

    private static void waysFirst() {
        CrossSums x = told("board 3 1 top 3;cage sum 5 b1 c1;cage sum 3 a1 b1");
        int[][] want = {{2, 0, 1, 1}, {2, 0, 2, 1}, {2, 1, 0, 2}, {2, 1, 0, 3}, {1, -2, 0, 1}, {2, 1, 1, 3}, {1, -2, 1, 2},
            {2, 0, 2, 2}, {1, -2, 2, 3}, {0, -2, -2, -2}};
        for (int i = 0; i < want.length; i++) {
            for (int what = 0; what < 4; what++) {
                due("next(" + what + ") behind " + i + " steps", x.next(what), want[i][what]);
            }
            due("step " + i, x.step(), want[i][0]);
        }
        due("count(6)", x.count(6), 3);
    }

    private static void mustAndTwins() {
        // 3 must be in a1, as neither b1 nor c1 has it; and b1 and c1 are twins.
        CrossSums x = told("board 3 1 top 3;across a1 any");
        x.strike(1, 3);
        x.strike(2, 3);
        due("next(0)", x.next(0), 2);
        due("next(2)", x.next(2), 0);
        due("next(3)", x.next(3), 1);
        due("weight(0)", x.weight(0), 3);
        due("weight(1)", x.weight(1), 5);
        due("weight(11)", x.weight(11), 6);
    }

    // ---- II: solutions ----

    private static void solutions() {
        test("A SOLUTION: for each OPEN CELL one of its MARKS", TermsTest::solutionsByMarks);
        test("so that each CAGE has a WAY by these alone", TermsTest::solutionsByCages);
        test("SOLUTIONS stand in order by the DIGITS of CELL after CELL", TermsTest::solutionOrder);
    }

    private static void solutionsByMarks() {
        CrossSums x = told("board 3 1 top 3;block b1");
        due("solve(50)", x.solve(50), 9);
        x.strike(0, 2);
        due("solve(50) without one mark", x.solve(50), 6);
        x.put(2, 1);
        due("solve(50) with one put", x.solve(50), 2);
        x.strike(0, 1);
        x.strike(0, 3);
        due("solve(50) without marks", x.solve(50), 0);
        due("solve(50) without open cells", told("board 2 2 top 3;block a1b1a2b2").solve(50), 1);
        due("solution(0, 0) there", told("board 2 2 top 3;block a1b1a2b2").solution(0, 0), -1);
    }

    private static void solutionsByCages() {
        due("one way each, none together", told("board 1 1 top 2;cage sum 1 a1;cage sum 2 a1").solve(1), 0);
        due("unlike", told("board 2 1 top 2;across a1 any").solve(50), 2);
        due("alike", told("board 2 1 top 2;across a1 any alike").solve(50), 4);
        due("a ring of unlike pairs, three of two digits",
                told("board 3 1 top 2;cage any a1b1;cage any b1c1;cage any a1c1").solve(1), 0);
        due("no way", told("board 2 1 top 2;across a1 sum 9").solve(1), 0);
    }

    private static void solutionOrder() {
        CrossSums x = told("board 2 2 top 2;block b1;cage sum 3 a1 b2");
        int[][] want = {{1, 1, 2}, {1, 2, 2}, {2, 1, 1}, {2, 2, 1}};
        for (int k = 0; k < 4; k++) {
            due("solution(" + k + ", 0)", x.solution(k, 0), want[k][0]);
            due("solution(" + k + ", 2)", x.solution(k, 2), want[k][1]);
            due("solution(" + k + ", 3)", x.solution(k, 3), want[k][2]);
        }
        due("solution(4, 0)", x.solution(4, 0), -2);
    }

    // ---- II: boards made by a seed ----

    private static void draws() {
        test("x becomes x * 1103515245 + 12345, wrapping: x >>> 16, of m the rest", TermsTest::wrappingDraws);
        test("DRAW TOP, and 1, is tried first, then the next ones (1 behind TOP)", TermsTest::oneBehindTop);
        test("each time one comes to a CELL from the one ahead", TermsTest::drawnAnew);
        test("it may stand, if no UNLIKE CAGE has it twice", TermsTest::unlikeDraws);
        test("no DIGITS are found so, if one would go back from the first", TermsTest::backFromFirst);
        test("or draw a 2001st time", TermsTest::mostDraws);
        test("Then each CAGE but any has the TOTAL of these", TermsTest::madeTotals);
        test("nothing is given or PUT, all MARKS are there", TermsTest::madeMarks);
        test("as long as there are two SOLUTIONS, the first CELL in which the first two are unlike is given what was DRAWN"
                + " for it", TermsTest::madeGiven);
    }

    private static void wrappingDraws() {
        int[] seeds = {0, 1, -1, 12345, MIN, MAX, MAX - 1, 0x7fff0000, 0x80008000};
        for (int seed : seeds) {
            for (int top = 2; top <= 7; top++) {
                CrossSums x = told("board 5 4 top " + top + ";block a1b2c3d4");
                due("make(" + seed + ")", x.make(seed), 16);
                long drawn = seed;
                for (int c = 0; c < 20; c++) {
                    if (c % 6 != 0) {
                        drawn = (drawn * 1103515245L + 12345L) & 0xffffffffL;
                        due("cell(" + c + ", 1) by " + seed + " of " + top, x.cell(c, 1), drawn / 65536 % top + 1);
                    }
                }
            }
        }
    }

    private static void oneBehindTop() {
        // From seed 20 both draws are 2 of 3: 3 stands in a1, so in b1 it is 1.
        CrossSums x = told("board 2 1 top 3;across a1 any");
        due("make(20)", x.make(20), 2);
        due("cell(0, 1)", x.cell(0, 1), 3);
        due("cell(1, 1)", x.cell(1, 1), 1);
        // From seed 8 both draws are 1 of 3.
        due("make(8)", x.make(8), 2);
        due("cell(0, 1)", x.cell(0, 1), 2);
        due("cell(1, 1)", x.cell(1, 1), 3);
    }

    private static void drawnAnew() {
        // From seed 10 the draws are 1 0 1 0 1 of 2: a1 is 2, b1 1, c1 can be neither, b1 becomes 2 undrawn,
        // c1 draws again and is 1, d1 has the fifth draw.
        CrossSums x = told("board 4 1 top 2;cage any a1 c1;cage any b1 c1");
        due("make(10)", x.make(10), 2);
        due("cell(0, 1)", x.cell(0, 1), 2);
        due("cell(3, 1)", x.cell(3, 1), 2);
        due("agree(1)", x.agree(1), 4);
        due("agree(2)", x.agree(2), 2);
    }

    private static void unlikeDraws() {
        // From seed 8 both draws are 1 of 3: alike 2 and 2, unlike 2 and 3.
        CrossSums x = told("board 2 1 top 3;across a1 sum 0 alike");
        due("make(8)", x.make(8), 1);
        due("cage(0, 1) alike", x.cage(0, 1), 4);
        x = told("board 2 1 top 3;across a1 sum 0");
        x.make(8);
        due("cage(0, 1) unlike", x.cage(0, 1), 5);
        x = told("board 2 1 top 3;across a1 sum 0 alike;across a1 any");
        x.make(8);
        due("cage(0, 1) alike and in another unlike", x.cage(0, 1), 5);
    }

    private static void backFromFirst() {
        for (int seed = -20; seed < 20; seed++) {
            CrossSums x = told("board 3 1 top 2;across a1 any");
            int s = seed;
            refused(x, "make(" + s + ")", () -> x.make(s), -2);
        }
        CrossSums seven = told("board 6 2 top 5;across a1 any;across a2 any");
        refused(seven, "make(1) of six unlike in five", () -> seven.make(1), -2);
        due("make(1) of six in seven", told("board 6 2 top 7;across a1 any;across a2 any").make(1) >= 0 ? 1 : 0, 1);
    }

    private static void mostDraws() {
        // From seed 363 all cells are filled by the 2000th draw, from seed 16251 by the 2001st.
        CrossSums x = told("board 4 4 top 4;cage any c2c4c1b4;cage any d3c4b1;cage any b4b1;cage any c2d3a3;cage any b3c1"
                + ";cage any b3b2;cage any a1d3;cage any a1a3b2;cage any d3b1c3c4;cage any d1c4a3a2");
        refused(x, "make(16251)", () -> x.make(16251), -2);
        due("make(363)", x.make(363) > 0 ? 1 : 0, 1);
        due("solve(2)", x.solve(2), 1);
        CrossSums late = told("board 4 4 top 3;across a4 any");
        refused(late, "make(1) of four unlike in three behind twelve free ones", () -> late.make(1), -2);
    }

    private static void madeTotals() {
        CrossSums x = told("board 2 1 top 7;across a1 sum 0;across a1 product 0;across a1 span 0;across a1 any;cage sum 9 b1");
        int given = x.make(5);
        due("count(5)", x.count(5), given);
        int a = x.solution(0, 0);
        int b = x.solution(0, 1);
        due("one solution", x.solve(2), 1);
        due("sum", x.cage(0, 1), a + b);
        due("product", x.cage(1, 1), a * b);
        due("span", x.cage(2, 1), Math.abs(a - b));
        due("any", x.cage(3, 1), 0);
        due("sum of one", x.cage(4, 1), b);
        // From seed -1 the first draws are 5 6 of 7, from MIN 1 6, from MAX 4 0.
        int[][] drawn = {{-1, 6, 7}, {MIN, 2, 7}, {MAX, 5, 1}};
        for (int[] d : drawn) {
            x.make(d[0]);
            due("sum by " + d[0], x.cage(0, 1), d[1] + d[2]);
            due("product by " + d[0], x.cage(1, 1), d[1] * d[2]);
            due("sum of one by " + d[0], x.cage(4, 1), d[2]);
        }
    }

    private static void madeMarks() {
        CrossSums x = told("board 2 1 top 7;cage sum 1 a1;cage sum 1 b1;given b1 3");
        x.put(0, 4);
        due("make(-1)", x.make(-1), 0);
        for (int c = 0; c < 2; c++) {
            due("cell(" + c + ", 1)", x.cell(c, 1), 0);
            due("cell(" + c + ", 2)", x.cell(c, 2), 0);
            due("cell(" + c + ", 3)", x.cell(c, 3), 254);
        }
        x.strike(0, 5);
        x.make(MIN);
        due("cell(0, 3) struck ahead", x.cell(0, 3), 254);
        CrossSums blocked = told("board 2 1 top 7;block a1;cage sum 1 b1");
        blocked.make(1);
        due("cell(0, 3) of a block", blocked.cell(0, 3), 0);
        due("lift(0)", x.lift(0), -2);
    }

    private static void madeGiven() {
        // From seed 8: 2 and 2, and 1 3, 2 2, 3 1 are the solutions, unlike in a1 first.
        CrossSums x = told("board 2 1 top 3;across a1 sum 0 alike");
        x.make(8);
        due("cell(0, 2)", x.cell(0, 2), 1);
        due("cell(0, 1)", x.cell(0, 1), 2);
        due("cell(1, 2)", x.cell(1, 2), 0);
        // Without cages the first two are unlike in the last cell: all are given.
        due("make(8) of free cells", told("board 2 2 top 3").make(8), 4);
        // One solution from the start: none is given.
        due("make(8) of one solution", told("board 1 1 top 3;across a1 sum 0").make(8), 0);
        due("make(8) of no cells", told("board 1 1 top 3;block a1").make(8), 0);
    }

    // ---- II: acts, shelves, and which answer comes first ----

    private static void actsAndShelves() {
        test("ACTS: all from put() to make()", TermsTest::whatIsAnAct);
        test("The last 10 can be UNDONE, the last first", TermsTest::lastTen);
        test("SHELVES 0, 1: all but TAPE, SHELVES", TermsTest::twoShelves);
        test("The k-th: from 0 on", TermsTest::fromZero);
        test("Where NONE and another answer fit, it is NONE", TermsTest::noneFirst);
        test("-2 ahead of -3", TermsTest::lackAheadOfMark);
        test("NONE = -1", () -> due("NONE", CrossSums.NONE, -1));
    }

    private static void whatIsAnAct() {
        CrossSums x = told(BOARD);
        x.feed(1, 2, 3, 4, 5);
        x.end(7);
        x.keep(0);
        x.tell();
        due("acts behind feed, end, keep and a tell that fails", x.count(8), 0);
        act(x, "put", () -> x.put(A1, 3), 1);
        act(x, "lift", () -> x.lift(A1), 3);
        act(x, "strike", () -> x.strike(A1, 3), 3);
        due("count(8)", x.count(8), 3);
        CrossSums y = told(BOARD);
        act(y, "give", () -> y.give(A2, 2), 1);
        act(y, "total", () -> y.total(0, 8), 7);
        act(y, "make", () -> y.make(3), 1);
        due("count(8)", y.count(8), 3);
        CrossSums z = told(BOARD);
        act(z, "step", () -> z.step(), 2);
        act(z, "run", () -> z.run(), 19);
        due("count(8)", z.count(8), 2);
    }

    private static void lastTen() {
        CrossSums x = told("board 6 2 top 3");
        for (int c = 0; c < 12; c++) {
            x.put(c, 1 + c % 3);
            due("count(8)", x.count(8), Math.min(10, c + 1));
        }
        for (int c = 11; c >= 2; c--) {
            due("undo()", x.undo(), c - 2);
            due("cell(" + c + ", 1)", x.cell(c, 1), 0);
            due("cell(" + (c - 1) + ", 1)", x.cell(c - 1, 1), 1 + (c - 1) % 3);
        }
        refused(x, "undo() of an eleventh", () -> x.undo(), -1);
        due("cell(1, 1)", x.cell(1, 1), 2);
    }

    private static void twoShelves() {
        CrossSums x = told(BOARD);
        x.put(A1, 2);
        x.strike(B1, 4);
        x.total(0, 9);
        String kept = board(x);
        due("keep(0)", x.keep(0), 4);
        tell(x, "board 1 1 top 2;cage any a1");
        due("keep(1)", x.keep(1), 1);
        x.feed(0, 0, 0, 0, 0);
        due("back(0)", x.back(0), 4);
        due("what was kept", board(x), kept);
        due("the tape stays", x.count(9), 20);
        due("the shelves stay", x.count(10), 3);
        due("back(1)", x.back(1), 1);
        due("the other one", text(x), "board 1 1 top 2;cage any a1");
        refused(x, "keep(2)", () -> x.keep(2), -1);
        refused(x, "back(2)", () -> x.back(2), -1);
    }

    private static void fromZero() {
        CrossSums x = told("board 1 1 top 3;cage any a1");
        for (int k = 0; k < 3; k++) {
            due("solution(" + k + ", 0)", x.solution(k, 0), k + 1);
            due("sets(0, " + k + ")", x.sets(0, k), 2 << k);
            due("letter(" + k + ")", x.letter(k), "board".charAt(k));
        }
        due("solution(3, 0)", x.solution(3, 0), -2);
        due("sets(0, 3)", x.sets(0, 3), -2);
    }

    private static void noneFirst() {
        CrossSums x = told(BOARD + ";given b1 4");
        x.put(A1, 1);
        refused(x, "put of no digit where one is put", () -> x.put(A1, 5), -1);
        refused(x, "put of no digit where one is given", () -> x.put(B1, 0), -1);
        refused(x, "strike of no digit where one is put", () -> x.strike(A1, 0), -1);
        refused(x, "strike of no digit where one is given", () -> x.strike(B1, 5), -1);
        refused(x, "give of no digit where one is given", () -> x.give(B1, 8), -1);
        CrossSums y = told(BOARD);
        refused(y, "lift of a block", () -> y.lift(B2), -1);
        refused(y, "total of any that is so", () -> y.total(3, 0), -1);
        refused(y, "back(2) when nothing is kept", () -> y.back(2), -1);
        due("solution(10, 0)", y.solution(10, A1), -1);
        due("solution(9, 4)", y.solution(9, B2), -1);
        y.total(0, 0);
        due("next(4) without a step", y.next(4), -1);
        due("hint(2) without a solution", y.hint(2), -1);
        due("wrong(2) without a solution", y.wrong(2), -1);
        due("solution(10, 0) without a solution", y.solution(10, A1), -1);
        due("solution(0, 4) without a solution", y.solution(0, B2), -1);
        due("solve(0) without a solution", y.solve(0), -1);
        due("sets(0, -2) without a way", y.sets(0, -2), -1);
        due("sets(5, 0)", y.sets(5, 0), -1);
        CrossSums none = new CrossSums();
        due("letter(-2) without a board", none.letter(-2), -1);
        due("broken(1) without a board", none.broken(1), -1);
        due("hint(0) without a board", none.hint(0), -1);
        due("next(1) without a board", none.next(1), -1);
        due("step() without a board", none.step(), -1);
    }

    private static void lackAheadOfMark() {
        CrossSums x = told(BOARD + ";given b1 4");
        x.put(A1, 1);
        refused(x, "put of no mark where one is put", () -> x.put(A1, 2), -2);
        refused(x, "put of no mark where one is given", () -> x.put(B1, 2), -2);
        refused(x, "strike of no mark where one is put", () -> x.strike(A1, 2), -2);
        refused(x, "strike of no mark where one is given", () -> x.strike(B1, 2), -2);
    }
}
