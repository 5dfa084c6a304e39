import java.util.ArrayList;
import java.util.Arrays;
import java.util.List;
import java.util.Map;
import java.util.Random;
import java.util.TreeMap;
import java.util.TreeSet;

/**
 * The ways of one cage for each total that it can have, and for those next to them: sums, products and spans of one to
 * six cells, of all marks and of some, counted by trying all digits out.
 */
public final class WaysTest extends Answers {
    /** What is counted of the ways with one total. */
    private static final class Count {
        int ways;
        final int[] has = new int[8];
        final int[] could = new int[6];
        int must = -1;
        final TreeSet<Integer> sets = new TreeSet<>();

        void add(int[] way) {
            int set = 0;
            for (int i = 0; i < way.length; i++) {
                set |= 1 << way[i];
                could[i] |= 1 << way[i];
            }
            for (int d = 1; d <= 7; d++) {
                has[d] += set >> d & 1;
            }
            ways++;
            must &= set;
            sets.add(set);
        }
    }

    public static void main(String[] args) {
        Random random = new Random(7);
        test("A WAY of a CAGE: for each of its CELLS one of its MARKS, with the TOTAL, none twice if it is UNLIKE", () -> {
            for (int top = 2; top <= 7; top++) {
                for (int size = 1; size <= 6; size++) {
                    for (int sort = 0; sort < 4; sort++) {
                        cage(top, size, sort, false, marksOf(top, size, null));
                        cage(top, size, sort, true, marksOf(top, size, null));
                        cage(top, size, sort, false, marksOf(top, size, random));
                        cage(top, size, sort, true, marksOf(top, size, random));
                    }
                }
            }
        });
        end();
    }

    /** All marks, or by random all but some. */
    private static int[] marksOf(int top, int size, Random random) {
        int[] marks = new int[size];
        for (int i = 0; i < size; i++) {
            int struck = random == null ? 0 : random.nextInt(256) & random.nextInt(256);
            marks[i] = (1 << (top + 1)) - 2 & ~struck;
        }
        return marks;
    }

    private static void cage(int top, int size, int sort, boolean alike, int[] marks) {
        TreeMap<Integer, Count> byTotal = new TreeMap<>();
        choose(sort, alike, marks, new int[size], 0, byTotal);
        int most = new int[] {99, 999999, 6, 0}[sort];
        TreeSet<Integer> totals = new TreeSet<>(byTotal.keySet());
        for (int total : byTotal.keySet()) {
            if (sort != 1 || totals.size() < 80 || byTotal.get(total).ways % 5 == 0) {
                totals.add(Math.max(0, total - 1));
                totals.add(Math.min(most, total + 1));
            }
        }
        totals.add(0);
        totals.add(most);
        CrossSums x = null;
        int asked = 0;
        for (int total : totals) {
            if (asked % 6 == 0) {
                x = toldCage(top, size, sort, alike, marks);
            }
            asked++;
            x.total(0, total);
            String cage = " of sort " + sort + (alike ? " alike, " : ", ") + total + ", marks " + Arrays.toString(marks);
            ask(x, cage, top, size, byTotal.getOrDefault(total, new Count()));
            due("range(0, false)", x.range(0, false), byTotal.isEmpty() ? -2 : byTotal.firstKey());
            due("range(0, true)", x.range(0, true), byTotal.isEmpty() ? -2 : byTotal.lastKey());
        }
    }

    private static void choose(int sort, boolean alike, int[] marks, int[] way, int i, Map<Integer, Count> byTotal) {
        if (i == way.length) {
            byTotal.computeIfAbsent(totalOf(sort, way), t -> new Count()).add(way);
            return;
        }
        for (int d = 1; d <= 7; d++) {
            boolean fits = (marks[i] >> d & 1) == 1;
            for (int j = 0; j < i && !alike; j++) {
                fits &= way[j] != d;
            }
            if (fits) {
                way[i] = d;
                choose(sort, alike, marks, way, i + 1, byTotal);
            }
        }
    }

    private static int totalOf(int sort, int[] way) {
        int sum = 0;
        int product = 1;
        int least = 9;
        int most = 0;
        for (int d : way) {
            sum += d;
            product *= d;
            least = Math.min(least, d);
            most = Math.max(most, d);
        }
        return sort == 0 ? sum : sort == 1 ? product : sort == 2 ? most - least : 0;
    }

    private static CrossSums toldCage(int top, int size, int sort, boolean alike, int[] marks) {
        String total = new String[] {"sum 98", "product 999998", "span 5", "any"}[sort];
        CrossSums x = told("board 6 1 top " + top + ";cage " + total + (alike ? " alike " : " ") + names(6, 0, size, -1));
        for (int c = 0; c < size; c++) {
            for (int d = 1; d <= top; d++) {
                if ((marks[c] >> d & 1) == 0) {
                    x.strike(c, d);
                }
            }
        }
        return x;
    }

    private static void ask(CrossSums x, String cage, int top, int size, Count count) {
        due("cage(0, 5)" + cage, x.cage(0, 5), count.ways);
        due("must(0)" + cage, x.must(0), count.ways == 0 ? 0 : count.must);
        due("broken(1)" + cage, x.broken(1), count.ways == 0 ? 0 : -2);
        for (int d = 1; d <= top; d++) {
            due("has(0, " + d + ")" + cage, x.has(0, d), count.has[d]);
        }
        for (int c = 0; c < size; c++) {
            due("could(0, " + c + ")" + cage, x.could(0, c), count.could[c]);
        }
        due("sets(0, -1)" + cage, x.sets(0, -1), count.sets.size());
        List<Integer> rising = new ArrayList<>(count.sets);
        for (int k = 0; k <= rising.size(); k += 1 + rising.size() / 3) {
            due("sets(0, " + k + ")" + cage, x.sets(0, k), k < rising.size() ? rising.get(k) : -2);
        }
    }
}
