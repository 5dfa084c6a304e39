import java.nio.charset.StandardCharsets;
import java.util.function.LongSupplier;

/** What the tests of single sentences have in common: they tell boards and compare answers with those that are due. */
class Answers {
    static final int MIN = Integer.MIN_VALUE;
    static final int MAX = Integer.MAX_VALUE;

    /** Has one solution, 1 4 2 in the first row, 2 and 3 in the second. */
    static final String BOARD =
            "board 3 2 top 4;block b2;across a1 sum 7;down a1 sum 3;down c1 product 6;cage any a2 c2";
    static final int A1 = 0;
    static final int B1 = 1;
    static final int C1 = 2;
    static final int A2 = 3;
    static final int B2 = 4;
    static final int C2 = 5;

    private static int wrong = 0;
    private static int sentences = 0;
    private static String sentence = "";

    /** A test bears the words of the document that it is for. */
    static void test(String words, Runnable body) {
        sentence = words;
        sentences++;
        body.run();
    }

    static void end() {
        System.out.println(sentences + " sentences: " + (wrong == 0 ? "each holds" : wrong + " answers are not as due"));
        if (wrong != 0) {
            System.exit(1);
        }
    }

    static void due(String call, long got, long want) {
        if (got != want) {
            wrong++;
            System.out.println("\"" + sentence + "\": " + call + " answered " + got + ", due is " + want);
        }
    }

    static void due(String what, String got, String want) {
        if (!got.equals(want)) {
            wrong++;
            System.out.println("\"" + sentence + "\": " + what + " is [" + got + "], due is [" + want + "]");
        }
    }

    static void feed(CrossSums x, String text) {
        byte[] bytes = text.getBytes(StandardCharsets.ISO_8859_1);
        x.end(0);
        for (int i = 0; i < bytes.length; i += 20) {
            int[] n = new int[5];
            for (int j = 0; j < 20 && i + j < bytes.length; j++) {
                n[j / 4] |= (bytes[i + j] & 255) << (24 - 8 * (j % 4));
            }
            x.feed(n[0], n[1], n[2], n[3], n[4]);
        }
        due("end of [" + text + "]", x.end(bytes.length), bytes.length);
    }

    static int tell(CrossSums x, String text) {
        feed(x, text);
        return x.tell();
    }

    static CrossSums told(String text) {
        CrossSums x = new CrossSums();
        int cages = tell(x, text);
        if (cages < 0) {
            due("tell of [" + text + "]", cages, 0);
        }
        return x;
    }

    static String text(CrossSums x) {
        StringBuilder b = new StringBuilder();
        int length = x.letter(-1);
        for (int k = 0; k < length; k++) {
            b.append((char) x.letter(k));
        }
        return b.toString();
    }

    /** The board as it stands: its sides, the totals of its cages, what its cells are and the marks they have. */
    static String board(CrossSums x) {
        StringBuilder b = new StringBuilder();
        for (int what = 0; what <= 4; what++) {
            b.append(' ').append(x.count(what));
        }
        int cages = x.count(4);
        for (int k = 0; k < cages; k++) {
            b.append(' ').append(x.cage(k, 1));
        }
        int cells = x.count(0) * x.count(1);
        for (int c = 0; c < cells; c++) {
            b.append(' ').append(x.cell(c, 1)).append('/').append(x.cell(c, 2)).append('/').append(x.cell(c, 3));
        }
        return b.toString();
    }

    static String all(CrossSums x) {
        return board(x) + ", undone " + x.count(8) + ", tape " + x.count(9) + ", shelves " + x.count(10);
    }

    /** The call answers so, and nothing happens. */
    static void refused(CrossSums x, String call, LongSupplier body, long want) {
        String before = all(x);
        due(call, body.getAsLong(), want);
        due("what stands behind " + call, all(x), before);
    }

    /** The call answers so and is one act; undone, all is as it was. */
    static void act(CrossSums x, String call, LongSupplier body, long want) {
        String before = board(x);
        int acts = x.count(8);
        due(call, body.getAsLong(), want);
        String behind = board(x);
        due("acts behind " + call, x.count(8), acts + 1);
        due("undo of " + call, x.undo(), acts);
        due("what stands when " + call + " is undone", board(x), before);
        due(call + " again", body.getAsLong(), want);
        due("what stands behind " + call + " again", board(x), behind);
    }

    /** The text is none, with this fault, and but for the tape nothing happens. */
    static void fault(String text, int place, int kind) {
        CrossSums x = told("board 2 1 top 3;cage sum 4 a1 b1;given a1 2");
        x.put(1, 1);
        x.keep(1);
        String before = all(x);
        due("tell of [" + text + "]", tell(x, text), -2 - (8 * place + kind));
        due("what stands behind [" + text + "]", all(x), before);
    }

    static void fine(String text, String canonical) {
        due("what [" + text + "] tells", text(told(text)), canonical);
    }

    static String name(int wide, int cell) {
        return "" + (char) ('a' + cell % wide) + (cell / wide + 1);
    }

    /** The names of the cells from one up to another, without one. */
    static String names(int wide, int from, int below, int without) {
        StringBuilder b = new StringBuilder();
        for (int c = from; c < below; c++) {
            b.append(c == without ? "" : name(wide, c));
        }
        return b.toString();
    }

    static String filled(String text, int length) {
        StringBuilder b = new StringBuilder(text);
        while (b.length() < length) {
            b.append(' ');
        }
        return b.toString();
    }

    static String twelveCages() {
        StringBuilder b = new StringBuilder("board 3 3 top 2");
        for (int k = 0; k < 12; k++) {
            b.append(k % 3 == 0 ? ";cage any a1" : k % 3 == 1 ? ";down b1 any" : ";across a2 any");
        }
        return b.toString();
    }
}
