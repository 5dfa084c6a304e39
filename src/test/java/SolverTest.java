import java.util.ArrayList;
import java.util.Collections;
import java.util.List;
import java.util.Random;

/**
 * Solutions of greater boards (up to 16 cells in up to 12 cages), beside a plain search that fills cell after cell. A
 * board for which that takes too long is left out.
 */
public final class SolverTest extends Answers {
    private static final int MOST_TRIES = 100000;
    // By these boards a search is found out that takes one failure that it remembers for another.
    private static final int[] TELLING = {1047, 2539, 4874, 5026, 7950, 12310, 16069, 16116, 22021, 23491};

    private static final class Cage {
        int sort;
        int total;
        boolean alike;
        final List<Integer> cells = new ArrayList<>();
    }

    private final long seed;
    private final Random random;
    private int cells;
    private int top;
    private final int[] marks = new int[16];
    private final List<Cage> cages = new ArrayList<>();
    private int tries;
    private final List<int[]> found = new ArrayList<>();

    private SolverTest(long seed) {
        this.seed = seed;
        random = new Random(seed);
    }

    public static void main(String[] args) {
        int boards = args.length > 0 ? Integer.parseInt(args[0]) : 800;
        test("How many SOLUTIONS there are; the k-th; what all agree on", () -> {
            int asked = 0;
            for (int seed = 1; seed <= boards; seed++) {
                asked += new SolverTest(seed).compare() ? 1 : 0;
            }
            for (int seed : TELLING) {
                due("board by seed " + seed + " was looked through", new SolverTest(seed).compare() ? 1 : 0, 1);
            }
            System.out.println(asked + " of " + boards + " boards were looked through");
            due("enough of them", asked > boards / 4 ? 1 : 0, 1);
        });
        test("MADE by a seed", () -> {
            int asked = 0;
            for (int seed = 1; seed <= boards; seed++) {
                asked += new SolverTest(seed).compareMade() ? 1 : 0;
            }
            System.out.println(asked + " of " + boards + " boards were made");
            due("enough of them", asked > boards / 4 ? 1 : 0, 1);
        });
        end();
    }

    // ---- boards ----

    private String drawBoard() {
        int wide = 2 + random.nextInt(3);
        int high = 2 + random.nextInt(3);
        cells = wide * high;
        top = 2 + random.nextInt(6);
        int[] digits = new int[16];
        for (int c = 0; c < cells; c++) {
            marks[c] = (1 << (top + 1)) - 2;
            digits[c] = 1 + random.nextInt(top);
        }
        StringBuilder b = new StringBuilder("board " + wide + " " + high + " top " + top);
        int many = random.nextInt(13);
        int sorts = random.nextInt(6);
        int alike = random.nextInt(3);
        for (int k = 0; k < many; k++) {
            Cage g = drawCage(digits, sorts, alike);
            StringBuilder part = new StringBuilder(";cage ").append(new String[] {"sum ", "product ", "span ", "any"}[g.sort]);
            part.append(g.sort == 3 ? "" : "" + g.total).append(g.alike ? " alike " : " ");
            for (int c : g.cells) {
                part.append(name(wide, c));
            }
            if (b.length() + part.length() <= 400) {
                b.append(part);
                cages.add(g);
            }
        }
        return b.toString();
    }

    /** The total is mostly that of the digits, so that there mostly is a solution. */
    private Cage drawCage(int[] digits, int sorts, int alike) {
        Cage g = new Cage();
        g.sort = sorts < 4 ? sorts : random.nextInt(sorts == 4 ? 3 : 4);
        List<Integer> all = new ArrayList<>();
        for (int c = 0; c < cells; c++) {
            all.add(c);
        }
        Collections.shuffle(all, random);
        g.cells.addAll(all.subList(0, Math.min(cells, 1 + random.nextInt(6))));
        int set = 0;
        int[] there = new int[g.cells.size()];
        for (int i = 0; i < there.length; i++) {
            there[i] = digits[g.cells.get(i)];
            set |= 1 << there[i];
        }
        g.alike = Integer.bitCount(set) < there.length || alike == 0 || alike == 1 && random.nextBoolean();
        int total = totalOf(g.sort, there) + (random.nextInt(12) == 0 ? 1 : 0);
        g.total = g.sort == 2 ? Math.min(6, total) : g.sort == 3 ? 0 : total;
        return g;
    }

    private static int totalOf(int sort, int[] digits) {
        int sum = 0;
        int product = 1;
        int least = 9;
        int most = 0;
        for (int d : digits) {
            sum += d;
            product *= d;
            least = Math.min(least, d);
            most = Math.max(most, d);
        }
        return sort == 0 ? sum : sort == 1 ? product : sort == 2 ? most - least : 0;
    }

    // ---- the plain search ----

    private void look(int[] digits, int cell, int most) {
        if (found.size() >= most || tries > MOST_TRIES) {
            return;
        }
        if (cell == cells) {
            found.add(digits.clone());
            return;
        }
        for (int d = 1; d <= top; d++) {
            if ((marks[cell] >> d & 1) == 1) {
                tries++;
                digits[cell] = d;
                if (bears(digits, cell)) {
                    look(digits, cell + 1, most);
                }
            }
        }
        digits[cell] = 0;
    }

    /** Whether each cage of that cell can still come out, the cells behind it being free. */
    private boolean bears(int[] digits, int cell) {
        for (Cage g : cages) {
            if (g.cells.contains(cell) && !bears(g, digits, cell)) {
                return false;
            }
        }
        return true;
    }

    private boolean bears(Cage g, int[] digits, int cell) {
        int free = 0;
        List<Integer> filled = new ArrayList<>();
        for (int c : g.cells) {
            if (c > cell) {
                free++;
            } else if (!g.alike && filled.contains(digits[c])) {
                return false;
            } else {
                filled.add(digits[c]);
            }
        }
        int[] there = filled.stream().mapToInt(d -> d).toArray();
        int total = totalOf(g.sort, there);
        switch (g.sort) {
            case 0:
                return total + free <= g.total && total + free * top >= g.total;
            case 1:
                return g.total > 0 && g.total % total == 0 && (free > 0 || total == g.total);
            case 2:
                return total <= g.total && (free > 0 || total == g.total);
            default:
                return true;
        }
    }

    private List<int[]> solutions(int most) {
        found.clear();
        tries = 0;
        look(new int[16], 0, most);
        return found;
    }

    // ---- what is asked ----

    private boolean compare() {
        String text = drawBoard();
        CrossSums x = told(text);
        if (random.nextInt(3) == 0) {
            strikeSome(x);
        }
        List<int[]> some = new ArrayList<>(solutions(50));
        if (tries > MOST_TRIES) {
            return false;
        }
        String of = " of [" + text + "], seed " + seed;
        due("solve(50)" + of, x.solve(50), some.size());
        due("solve(1)" + of, x.solve(1), Math.min(1, some.size()));
        for (int k = 0; k < 10; k++) {
            for (int c = 0; c < cells; c++) {
                due("solution(" + k + ", " + c + ")" + of, x.solution(k, c), k < some.size() ? some.get(k)[c] : -2);
            }
        }
        int hint = -2;
        int digit = -2;
        for (int c = 0; c < cells; c++) {
            int agree = digitsIn(c);
            if (agree < 0) {
                return false;
            }
            due("agree(" + c + ")" + of, x.agree(c), agree);
            if (hint == -2 && Integer.bitCount(agree) == 1) {
                hint = c;
                digit = Integer.numberOfTrailingZeros(agree);
            }
        }
        due("hint(0)" + of, x.hint(0), hint);
        due("hint(1)" + of, x.hint(1), digit);
        return true;
    }

    private void strikeSome(CrossSums x) {
        for (int i = 0; i < cells; i++) {
            int c = random.nextInt(cells);
            int d = 1 + random.nextInt(top);
            marks[c] &= ~(1 << d);
            x.strike(c, d);
        }
    }

    /** The digits that the cell has in some solution, by one search for each; below 0 if one takes too long. */
    private int digitsIn(int cell) {
        int all = marks[cell];
        int digits = 0;
        for (int d = 1; d <= top; d++) {
            marks[cell] = all & 1 << d;
            digits |= solutions(1).isEmpty() ? 0 : 1 << d;
            if (tries > MOST_TRIES) {
                return -1;
            }
        }
        marks[cell] = all;
        return digits;
    }

    // ---- boards made by a seed ----

    private int drawn;
    private int draws;

    private boolean compareMade() {
        String text = drawBoard();
        CrossSums x = told(text);
        drawn = random.nextInt();
        String made = "make(" + drawn + ") of [" + text + "], seed " + seed;
        int start = drawn;
        int[] digits = new int[16];
        if (!drawDigits(digits, 0)) {
            due(made, x.make(start), -2);
            return true;
        }
        for (Cage g : cages) {
            g.total = g.sort == 3 ? 0 : totalOf(g.sort, g.cells.stream().mapToInt(c -> digits[c]).toArray());
        }
        int given = giveUntilOneIsLeft(digits);
        if (given < 0) {
            return false;
        }
        due(made, x.make(start), given);
        for (int c = 0; c < cells; c++) {
            due("cell(" + c + ", 3) behind " + made, x.cell(c, 3), marks[c]);
            due("cell(" + c + ", 2) behind " + made, x.cell(c, 2), Integer.bitCount(marks[c]) == 1 ? 1 : 0);
        }
        for (int k = 0; k < cages.size(); k++) {
            due("cage(" + k + ", 1) behind " + made, x.cage(k, 1), cages.get(k).total);
        }
        due("wrong(0) behind " + made, x.wrong(0), 0);
        long idle = idle();
        if (tries <= MOST_TRIES) {
            due("idle() behind " + made, x.idle(), idle);
        }
        return true;
    }

    private long idle() {
        long idle = 0;
        for (int c = 0; c < cells && tries <= MOST_TRIES; c++) {
            int there = marks[c];
            if (Integer.bitCount(there) == 1) {
                marks[c] = (1 << (top + 1)) - 2;
                idle |= solutions(2).size() == 1 ? 1L << c : 0;
                marks[c] = there;
            }
        }
        return idle;
    }

    private boolean drawDigits(int[] digits, int cell) {
        if (cell == cells) {
            return true;
        }
        if (draws == 2000) {
            return false;
        }
        draws++;
        drawn = drawn * 1103515245 + 12345;
        int first = (drawn >>> 16) % top;
        for (int i = 0; i < top; i++) {
            digits[cell] = (first + i) % top + 1;
            if (mayStand(digits, cell) && drawDigits(digits, cell + 1)) {
                return true;
            }
        }
        return false;
    }

    private boolean mayStand(int[] digits, int cell) {
        for (Cage g : cages) {
            for (int c : g.cells) {
                if (!g.alike && c < cell && g.cells.contains(cell) && digits[c] == digits[cell]) {
                    return false;
                }
            }
        }
        return true;
    }

    /** How many are given; below 0 if it takes too long. */
    private int giveUntilOneIsLeft(int[] digits) {
        int given = 0;
        while (solutions(2).size() == 2) {
            int c = 0;
            while (found.get(0)[c] == found.get(1)[c]) {
                c++;
            }
            marks[c] = 1 << digits[c];
            given++;
        }
        return tries > MOST_TRIES ? -1 : given;
    }
}
