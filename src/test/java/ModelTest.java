import java.nio.charset.StandardCharsets;
import java.util.ArrayDeque;
import java.util.ArrayList;
import java.util.Deque;
import java.util.List;
import java.util.Random;
import java.util.TreeSet;
import java.util.function.Consumer;

/** Runs of calls on random boards, each answer beside that of a plain model that tries everything out. */
public final class ModelTest {
    private static int wrong = 0;
    private static long calls = 0;

    // ---- the model ----

    static final class Cage {
        int sort;
        int total;
        boolean alike;
        int[] cells;

        Cage copy() {
            Cage c = new Cage();
            c.sort = sort;
            c.total = total;
            c.alike = alike;
            c.cells = cells;
            return c;
        }
    }

    static final class State {
        int wide;
        int high;
        int top;
        boolean[] block = new boolean[36];
        int[] given = new int[36];
        int[] put = new int[36];
        int[] marks = new int[36];
        List<Cage> cages = new ArrayList<>();

        State copy() {
            State s = new State();
            s.wide = wide;
            s.high = high;
            s.top = top;
            s.block = block.clone();
            s.given = given.clone();
            s.put = put.clone();
            s.marks = marks.clone();
            for (Cage c : cages) {
                s.cages.add(c.copy());
            }
            return s;
        }

        int full() {
            int m = 0;
            for (int d = 1; d <= top; d++) {
                m |= 1 << d;
            }
            return m;
        }

        boolean open(int c) {
            return c >= 0 && c < wide * high && !block[c];
        }

        boolean done(int c) {
            return given[c] != 0 || put[c] != 0;
        }

        List<Integer> opens() {
            List<Integer> l = new ArrayList<>();
            for (int c = 0; c < wide * high; c++) {
                if (!block[c]) {
                    l.add(c);
                }
            }
            return l;
        }

        String text() {
            if (wide == 0) {
                return "";
            }
            StringBuilder b = new StringBuilder("board " + wide + " " + high + " top " + top);
            String blocks = "";
            for (int c = 0; c < wide * high; c++) {
                blocks += block[c] ? " " + name(c) : "";
            }
            b.append(blocks.isEmpty() ? "" : ";block" + blocks);
            for (Cage g : cages) {
                b.append(";cage ").append(new String[] {"sum ", "product ", "span ", "any"}[g.sort]);
                b.append(g.sort == 3 ? "" : "" + g.total).append(g.alike ? " alike" : "");
                for (int c : g.cells) {
                    b.append(" ").append(name(c));
                }
            }
            for (int c = 0; c < wide * high; c++) {
                b.append(given[c] != 0 ? ";given " + name(c) + " " + given[c] : "");
            }
            return b.toString();
        }

        String name(int c) {
            return "" + (char) ('a' + c % wide) + (c / wide + 1);
        }
    }

    static int total(int sort, int[] digits, int n) {
        int sum = 0;
        int product = 1;
        int least = 9;
        int most = 0;
        for (int i = 0; i < n; i++) {
            sum += digits[i];
            product *= digits[i];
            least = Math.min(least, digits[i]);
            most = Math.max(most, digits[i]);
        }
        return sort == 0 ? sum : sort == 1 ? product : sort == 2 ? most - least : 0;
    }

    /** All choices of marks, unlike if it must be. */
    static List<int[]> choices(Cage g, int[] marks) {
        List<int[]> all = new ArrayList<>();
        choose(g, marks, new int[g.cells.length], 0, all);
        return all;
    }

    static void choose(Cage g, int[] marks, int[] digits, int i, List<int[]> all) {
        if (i == digits.length) {
            all.add(digits.clone());
            return;
        }
        for (int d = 1; d <= 7; d++) {
            boolean fits = (marks[g.cells[i]] >> d & 1) == 1;
            for (int j = 0; j < i && !g.alike; j++) {
                fits &= digits[j] != d;
            }
            if (fits) {
                digits[i] = d;
                choose(g, marks, digits, i + 1, all);
            }
        }
    }

    static List<int[]> ways(Cage g, int[] marks) {
        List<int[]> all = choices(g, marks);
        all.removeIf(w -> total(g.sort, w, w.length) != g.total);
        return all;
    }

    static int set(int[] way) {
        int s = 0;
        for (int d : way) {
            s |= 1 << d;
        }
        return s;
    }

    static List<int[]> solutions(State s, int[] marks, int most) {
        List<int[]> found = new ArrayList<>();
        solve(s, s.opens(), marks, new int[36], 0, most, found);
        return found;
    }

    static void solve(State s, List<Integer> opens, int[] marks, int[] digits, int i, int most, List<int[]> found) {
        if (found.size() >= most) {
            return;
        }
        if (i == opens.size()) {
            found.add(digits.clone());
            return;
        }
        int cell = opens.get(i);
        for (int d = 1; d <= s.top; d++) {
            if ((marks[cell] >> d & 1) == 1) {
                digits[cell] = d;
                if (holds(s, digits, cell)) {
                    solve(s, opens, marks, digits, i + 1, most, found);
                }
            }
        }
        digits[cell] = 0;
    }

    /** Whether the cages of the last cell that was filled bear it; the cells behind it are to be 0. */
    static boolean holds(State s, int[] digits, int cell) {
        for (Cage g : s.cages) {
            int n = 0;
            boolean in = false;
            boolean whole = true;
            int[] filled = new int[6];
            for (int c : g.cells) {
                in |= c == cell;
                if (c <= cell) {
                    for (int j = 0; j < n && !g.alike; j++) {
                        if (filled[j] == digits[c]) {
                            return false;
                        }
                    }
                    filled[n++] = digits[c];
                } else {
                    whole = false;
                }
            }
            if (in && whole && total(g.sort, filled, n) != g.total) {
                return false;
            }
        }
        return true;
    }

    static final class Step {
        int kind;
        int cage = -2;
        int cell = -2;
        int digit = -2;
        Consumer<State> act;
    }

    static boolean broken(State s) {
        return lackCell(s) != -2 || lackCage(s) != -2;
    }

    static int lackCell(State s) {
        for (int c : s.opens()) {
            if (s.marks[c] == 0) {
                return c;
            }
        }
        return -2;
    }

    static int lackCage(State s) {
        for (int k = 0; k < s.cages.size(); k++) {
            if (ways(s.cages.get(k), s.marks).isEmpty()) {
                return k;
            }
        }
        return -2;
    }

    static Step step(State s) {
        Step r = new Step();
        if (broken(s)) {
            return r;
        }
        for (int c : s.opens()) {
            if (!s.done(c) && Integer.bitCount(s.marks[c]) == 1) {
                r.kind = 1;
                r.cell = c;
                r.digit = Integer.numberOfTrailingZeros(s.marks[c]);
                r.act = t -> t.put[r.cell] = r.digit;
                return r;
            }
        }
        for (int k = 0; k < s.cages.size(); k++) {
            Cage g = s.cages.get(k);
            List<int[]> ways = ways(g, s.marks);
            for (int i = 0; i < g.cells.length; i++) {
                for (int d = 1; d <= s.top; d++) {
                    boolean never = (s.marks[g.cells[i]] >> d & 1) == 1;
                    for (int[] w : ways) {
                        never &= w[i] != d;
                    }
                    if (never) {
                        r.kind = 2;
                        r.cage = k;
                        r.cell = g.cells[i];
                        r.digit = d;
                        r.act = t -> t.marks[r.cell] &= ~(1 << r.digit);
                        return r;
                    }
                }
            }
        }
        // MUST and TWINS can never be the first: what they strike is in no way, so WAYS strikes it ahead of them.
        return r;
    }

    // ---- one run: the object, the model, and what both answer ----

    final CrossSums x = new CrossSums();
    State s = new State();
    final Deque<State> past = new ArrayDeque<>();
    final State[] shelf = new State[2];
    final Random random;
    final long seed;
    final StringBuilder log = new StringBuilder();
    byte[] tape = new byte[0];

    ModelTest(long seed) {
        this.seed = seed;
        random = new Random(seed);
    }

    void due(String call, long got, long want) {
        calls++;
        log.append("\n  ").append(call).append(" -> ").append(got);
        if (got != want) {
            wrong++;
            if (wrong <= 5) {
                System.out.println("seed " + seed + ": " + call + " answered " + got + ", due is " + want + log);
            }
        }
    }

    void feedText(String text) {
        byte[] bytes = text.getBytes(StandardCharsets.ISO_8859_1);
        due("end(0)", x.end(0), 0);
        for (int i = 0; i < bytes.length; i += 20) {
            int[] n = new int[5];
            for (int j = 0; j < 20; j++) {
                int b = i + j < bytes.length ? bytes[i + j] & 255 : 0;
                n[j / 4] |= b << (24 - 8 * (j % 4));
            }
            due("feed", x.feed(n[0], n[1], n[2], n[3], n[4]), i + 20);
        }
        due("end", x.end(bytes.length), bytes.length);
        due("count(9)", x.count(9), bytes.length);
    }

    void tellText(String text) {
        feedText(text);
        log.append("\n  [").append(text).append("]");
        State told = new State();
        int fault = new ModelReader(text, told).read();
        if (fault < 0) {
            s = told;
            past.clear();
            due("tell()", x.tell(), s.cages.size());
        } else {
            due("tell()", x.tell(), -2 - fault);
        }
        due("count(9)", x.count(9), 0);
    }

    void remember() {
        past.push(s.copy());
        if (past.size() > 10) {
            past.removeLast();
        }
    }

    int low(int from, int below) {
        return random.nextInt(8) == 0 ? from - 1 : random.nextInt(8) == 0 ? below : from + random.nextInt(Math.max(1, below - from));
    }

    int someCell() {
        return low(0, s.wide * s.high);
    }

    int someDigit() {
        return low(1, s.top + 1);
    }

    int someCage() {
        return low(0, s.cages.size());
    }

    void act() {
        int c = someCell();
        int d = someDigit();
        switch (random.nextInt(9)) {
            case 0:
            case 1:
                actPut(c, d);
                break;
            case 2:
                actLift(c);
                break;
            case 3:
            case 4:
                actStrike(c, d);
                break;
            case 5:
                actGive(c, d);
                break;
            case 6:
                actTotal();
                break;
            case 7:
                actSteps();
                break;
            default:
                actKept();
                break;
        }
    }

    void actPut(int c, int d) {
        int want = 1;
        if (!s.open(c) || d < 1 || d > s.top) {
            want = -1;
        } else if (s.done(c)) {
            want = -2;
        } else if ((s.marks[c] >> d & 1) == 0) {
            want = -3;
        } else {
            remember();
            s.put[c] = d;
            s.marks[c] = 1 << d;
        }
        due("put(" + c + ", " + d + ")", x.put(c, d), want);
    }

    void actLift(int c) {
        int want;
        if (!s.open(c)) {
            want = -1;
        } else if (s.put[c] == 0) {
            want = -2;
        } else {
            remember();
            want = s.put[c];
            s.put[c] = 0;
            s.marks[c] = s.full();
        }
        due("lift(" + c + ")", x.lift(c), want);
    }

    void actStrike(int c, int d) {
        int want;
        if (!s.open(c) || d < 1 || d > s.top) {
            want = -1;
        } else if (s.done(c)) {
            want = -2;
        } else if ((s.marks[c] >> d & 1) == 0) {
            want = -3;
        } else {
            remember();
            s.marks[c] &= ~(1 << d);
            want = Integer.bitCount(s.marks[c]);
        }
        due("strike(" + c + ", " + d + ")", x.strike(c, d), want);
    }

    void actGive(int c, int d) {
        int want = 1;
        if (!s.open(c) || d < 1 || d > s.top) {
            want = -1;
        } else if (s.given[c] == d) {
            want = -2;
        } else {
            remember();
            s.given[c] = d;
            s.put[c] = 0;
            s.marks[c] = 1 << d;
        }
        due("give(" + c + ", " + d + ")", x.give(c, d), want);
    }

    void actTotal() {
        int k = someCage();
        boolean is = k >= 0 && k < s.cages.size();
        int sort = is ? s.cages.get(k).sort : 0;
        int most = new int[] {99, 999999, 6, -1}[sort];
        int was = is ? s.cages.get(k).total : 0;
        int n = random.nextBoolean() ? was + random.nextInt(5) - 2 : random.nextBoolean() ? most + random.nextInt(2) : random.nextInt(12);
        int want;
        if (!is || n < 0 || n > most) {
            want = -1;
        } else if (n == was) {
            want = -2;
        } else {
            remember();
            s.cages.get(k).total = n;
            want = was;
        }
        due("total(" + k + ", " + n + ")", x.total(k, n), want);
    }

    void actSteps() {
        if (random.nextInt(3) == 0) {
            actMake();
            return;
        }
        boolean all = random.nextBoolean();
        int want = s.wide == 0 ? -1 : broken(s) ? -2 : 0;
        if (want == 0) {
            Step step = step(s);
            if (step.kind != 0) {
                remember();
            }
            if (!all) {
                want = step.kind;
                if (step.kind != 0) {
                    step.act.accept(s);
                }
            }
            while (all && step.kind != 0) {
                step.act.accept(s);
                want++;
                step = step(s);
            }
        }
        due(all ? "run()" : "step()", all ? x.run() : x.step(), want);
    }

    void actMake() {
        int x0 = random.nextInt();
        due("make(" + x0 + ")", x.make(x0), made(x0));
    }

    int draws;
    int drawSeed;

    int draw(int m) {
        draws++;
        drawSeed = drawSeed * 1103515245 + 12345;
        return (drawSeed >>> 16) % m;
    }

    int made(int x0) {
        if (s.wide == 0) {
            return -1;
        }
        draws = 0;
        drawSeed = x0;
        int[] digits = new int[36];
        if (!drawFrom(s.opens(), 0, digits)) {
            return -2;
        }
        remember();
        s.given = new int[36];
        s.put = new int[36];
        for (int c : s.opens()) {
            s.marks[c] = s.full();
        }
        for (Cage g : s.cages) {
            int[] there = new int[g.cells.length];
            for (int i = 0; i < there.length; i++) {
                there[i] = digits[g.cells[i]];
            }
            g.total = total(g.sort, there, there.length);
        }
        int many = 0;
        for (List<int[]> two = solutions(s, s.marks, 2); two.size() == 2; two = solutions(s, s.marks, 2)) {
            for (int c : s.opens()) {
                if (two.get(0)[c] != two.get(1)[c]) {
                    s.given[c] = digits[c];
                    s.marks[c] = 1 << digits[c];
                    many++;
                    break;
                }
            }
        }
        return many;
    }

    boolean drawFrom(List<Integer> opens, int i, int[] digits) {
        if (i == opens.size()) {
            return true;
        }
        if (draws >= 2000) {
            return false;
        }
        int first = draw(s.top) + 1;
        int cell = opens.get(i);
        for (int j = 0; j < s.top; j++) {
            int d = (first + j - 1) % s.top + 1;
            boolean fits = true;
            for (Cage g : s.cages) {
                boolean in = false;
                boolean twice = false;
                for (int c : g.cells) {
                    in |= c == cell;
                    twice |= c < cell && digits[c] == d;
                }
                fits &= g.alike || !in || !twice;
            }
            if (fits) {
                digits[cell] = d;
                if (drawFrom(opens, i + 1, digits)) {
                    return true;
                }
            }
        }
        return false;
    }

    void actKept() {
        int shelfNumber = low(0, 2);
        boolean is = shelfNumber == 0 || shelfNumber == 1;
        switch (random.nextInt(4)) {
            case 0:
                due("keep(" + shelfNumber + ")", x.keep(shelfNumber), is ? s.cages.size() : -1);
                if (is) {
                    shelf[shelfNumber] = s.copy();
                }
                break;
            case 1:
                int want = !is ? -1 : shelf[shelfNumber] == null ? -2 : shelf[shelfNumber].cages.size();
                due("back(" + shelfNumber + ")", x.back(shelfNumber), want);
                if (want >= 0) {
                    s = shelf[shelfNumber].copy();
                    past.clear();
                }
                break;
            default:
                if (past.isEmpty()) {
                    due("undo()", x.undo(), -1);
                } else {
                    s = past.pop();
                    due("undo()", x.undo(), past.size());
                }
                break;
        }
    }

    // ---- all that can be asked ----

    void ask() {
        boolean board = s.wide > 0;
        int cells = s.wide * s.high;
        askCounts();
        for (int what = -1; what <= 5; what++) {
            for (int c = -1; c <= cells; c++) {
                due("cell(" + c + ", " + what + ")", x.cell(c, what), cellAnswer(c, what));
            }
        }
        for (int k = -1; k <= s.cages.size(); k++) {
            askCage(k);
        }
        askNext(board);
        askSolutions(board);
        String text = s.text();
        due("letter(-1)", x.letter(-1), text.length());
        due("letter(-2)", x.letter(-2), -1);
        for (int k = 0; k <= text.length(); k++) {
            due("letter(" + k + ")", x.letter(k), k < text.length() ? text.charAt(k) : -2);
        }
        due("broken(0)", x.broken(0), !board ? -1 : broken(s) ? 1 : 0);
        due("broken(1)", x.broken(1), !board ? -1 : lackCage(s));
        due("broken(2)", x.broken(2), !board ? -1 : lackCell(s));
        due("broken(3)", x.broken(3), -1);
        for (int i = 0; i < 5; i++) {
            int sort = low(0, 3);
            int n = low(1, 7);
            int total = low(0, sort == 1 ? 60 : 20);
            due("combos(" + sort + ", " + n + ", " + total + ")", x.combos(sort, n, total), combos(sort, n, total));
        }
    }

    int combos(int sort, int n, int total) {
        if (s.wide == 0 || sort < 0 || sort > 2 || n < 1 || n > 6) {
            return -1;
        }
        Cage g = new Cage();
        g.sort = sort;
        g.total = total;
        g.cells = new int[n];
        TreeSet<Integer> sets = new TreeSet<>();
        for (int[] w : ways(g, new int[] {s.full()})) {
            sets.add(set(w));
        }
        return sets.size();
    }

    void askCounts() {
        int open = s.opens().size();
        int given = 0;
        int done = 0;
        int marks = 0;
        for (int c : s.opens()) {
            given += s.given[c] != 0 ? 1 : 0;
            done += s.done(c) ? 1 : 0;
            marks += Integer.bitCount(s.marks[c]);
        }
        int kept = (shelf[0] != null ? 1 : 0) + (shelf[1] != null ? 2 : 0);
        int[] want = {s.wide, s.high, s.top, open, s.cages.size(), given, done, marks, past.size(), 0, kept};
        for (int what = 0; what < want.length; what++) {
            if (what != 9) {
                due("count(" + what + ")", x.count(what), want[what]);
            }
        }
        due("count(-1)", x.count(-1), -1);
        due("count(11)", x.count(11), -1);
    }

    int cellAnswer(int c, int what) {
        if (c < 0 || c >= s.wide * s.high || what < 0 || what > 4) {
            return -1;
        }
        int in = 0;
        for (int k = 0; k < s.cages.size(); k++) {
            for (int other : s.cages.get(k).cells) {
                in |= other == c ? 1 << k : 0;
            }
        }
        int digit = s.given[c] != 0 ? s.given[c] : s.put[c];
        return new int[] {s.block[c] ? 0 : 1, digit, s.given[c] != 0 ? 1 : 0, s.marks[c], in}[what];
    }

    void askCage(int k) {
        boolean is = k >= 0 && k < s.cages.size();
        if (!is) {
            for (int what = -1; what < 17; what++) {
                due("cage(" + k + ", " + what + ")", x.cage(k, what), -1);
            }
            due("has", x.has(k, 1), -1);
            due("could", x.could(k, 0), -1);
            due("must", x.must(k), -1);
            due("sets", x.sets(k, -1), -1);
            due("range", x.range(k, false), -1);
            due("shared", x.shared(k, 0), -1);
            due("shared", x.shared(0, k), -1);
            return;
        }
        Cage g = s.cages.get(k);
        List<int[]> ways = ways(g, s.marks);
        int done = 0;
        for (int c : g.cells) {
            done += s.done(c) ? 1 : 0;
        }
        int[] want = {g.sort, g.total, g.cells.length, g.alike ? 0 : 1, done, ways.size()};
        for (int what = -1; what < 17; what++) {
            int due = what >= 0 && what < 6 ? want[what] : what >= 10 && what < 10 + g.cells.length ? g.cells[what - 10] : -1;
            due("cage(" + k + ", " + what + ")", x.cage(k, what), due);
        }
        int must = ways.isEmpty() ? 0 : -1;
        TreeSet<Integer> sets = new TreeSet<>();
        for (int[] w : ways) {
            must &= set(w);
            sets.add(set(w));
        }
        due("must(" + k + ")", x.must(k), must);
        due("sets(" + k + ", -1)", x.sets(k, -1), sets.size());
        due("sets(" + k + ", -2)", x.sets(k, -2), -1);
        List<Integer> rising = new ArrayList<>(sets);
        for (int i = 0; i <= sets.size(); i++) {
            due("sets(" + k + ", " + i + ")", x.sets(k, i), i < sets.size() ? rising.get(i) : -2);
        }
        for (int d = 0; d <= s.top + 1; d++) {
            int many = 0;
            for (int[] w : ways) {
                many += set(w) >> d & 1;
            }
            due("has(" + k + ", " + d + ")", x.has(k, d), d < 1 || d > s.top ? -1 : many);
        }
        for (int c = -1; c <= s.wide * s.high; c++) {
            int could = -1;
            for (int i = 0; i < g.cells.length; i++) {
                if (g.cells[i] == c) {
                    could = 0;
                    for (int[] w : ways) {
                        could |= 1 << w[i];
                    }
                }
            }
            due("could(" + k + ", " + c + ")", x.could(k, c), could);
        }
        int least = -2;
        int most = -2;
        for (int[] w : choices(g, s.marks)) {
            int t = total(g.sort, w, w.length);
            least = least == -2 ? t : Math.min(least, t);
            most = Math.max(most, t);
        }
        due("range(" + k + ", false)", x.range(k, false), least);
        due("range(" + k + ", true)", x.range(k, true), most);
        for (int o = 0; o < s.cages.size(); o++) {
            long both = o == k ? -1 : 0;
            for (int c : g.cells) {
                for (int e : s.cages.get(o).cells) {
                    both |= c == e ? 1L << c : 0;
                }
            }
            due("shared(" + k + ", " + o + ")", x.shared(k, o), both);
        }
    }

    void askNext(boolean board) {
        Step step = board ? step(s) : new Step();
        due("next(0)", x.next(0), !board ? -1 : step.kind);
        due("next(1)", x.next(1), !board ? -1 : step.cage);
        due("next(2)", x.next(2), !board ? -1 : step.cell);
        due("next(3)", x.next(3), !board ? -1 : step.digit);
        due("next(4)", x.next(4), -1);
        due("next(-1)", x.next(-1), -1);
        if (!board) {
            due("weight(0)", x.weight(0), -1);
            due("weight(10)", x.weight(10), -1);
            return;
        }
        State end = s.copy();
        int steps = 0;
        int kinds = 0;
        for (Step next = step(end); next.kind != 0; next = step(end)) {
            next.act.accept(end);
            steps++;
            kinds += next.kind;
        }
        int left = 0;
        for (int c : end.opens()) {
            left += end.done(c) ? 0 : 1;
        }
        int[] want = {steps, kinds, left, broken(end) ? 1 : 0};
        for (int what = -1; what <= 10 + s.wide * s.high; what++) {
            int due = what >= 0 && what < 4 ? want[what] : what >= 10 && what < 10 + s.wide * s.high ? end.marks[what - 10] : -1;
            due("weight(" + what + ")", x.weight(what), due);
        }
    }

    void askSolutions(boolean board) {
        due("solve(0)", x.solve(0), -1);
        due("solve(51)", x.solve(51), -1);
        if (!board) {
            due("solve(1)", x.solve(1), -1);
            due("hint(0)", x.hint(0), -1);
            due("wrong(0)", x.wrong(0), -1);
            due("idle()", x.idle(), -1);
            due("agree(0)", x.agree(0), -1);
            due("solution(0, 0)", x.solution(0, 0), -1);
            return;
        }
        List<int[]> all = solutions(s, s.marks, 100000);
        int most = 1 + random.nextInt(50);
        due("solve(" + most + ")", x.solve(most), Math.min(most, all.size()));
        due("solve(50)", x.solve(50), Math.min(50, all.size()));
        int hint = -2;
        int digit = -2;
        for (int c = -1; c <= s.wide * s.high; c++) {
            int k = random.nextInt(12) - 1;
            boolean none = !s.open(c) || k < 0 || k > 9;
            due("solution(" + k + ", " + c + ")", x.solution(k, c), none ? -1 : k >= all.size() ? -2 : all.get(k)[c]);
            int agree = s.open(c) ? 0 : -1;
            for (int[] a : all) {
                agree |= s.open(c) ? 1 << a[c] : 0;
            }
            if (all.size() < 100000) {
                due("agree(" + c + ")", x.agree(c), agree);
                if (s.open(c) && hint == -2 && !s.done(c) && Integer.bitCount(agree) == 1) {
                    hint = c;
                    digit = Integer.numberOfTrailingZeros(agree);
                }
            }
        }
        if (all.size() < 100000) {
            due("hint(0)", x.hint(0), hint);
            due("hint(1)", x.hint(1), digit);
        }
        due("hint(2)", x.hint(2), -1);
        askGiven();
    }

    void askGiven() {
        List<int[]> two = solutions(s, byGiven(-1), 2);
        int many = -2;
        int first = -2;
        if (two.size() == 1) {
            many = 0;
            for (int c : s.opens()) {
                if ((s.marks[c] >> two.get(0)[c] & 1) == 0) {
                    many++;
                    first = first == -2 ? c : first;
                }
            }
        }
        due("wrong(0)", x.wrong(0), many);
        due("wrong(1)", x.wrong(1), first);
        due("wrong(2)", x.wrong(2), -1);
        due("wrong(-1)", x.wrong(-1), -1);
        long idle = 0;
        for (int c : s.opens()) {
            if (s.given[c] != 0 && solutions(s, byGiven(c), 2).size() == 1) {
                idle |= 1L << c;
            }
        }
        due("idle()", x.idle(), idle);
    }

    int[] byGiven(int freed) {
        int[] marks = new int[36];
        for (int c : s.opens()) {
            marks[c] = s.given[c] != 0 && c != freed ? 1 << s.given[c] : s.full();
        }
        return marks;
    }

    // ---- texts ----

    /** Reads a text sign by sign; a fault ends it at once. */
    static final class ModelReader {
        static final class Fault extends RuntimeException {
            private static final long serialVersionUID = 1L;
            final int code;

            Fault(int place, int kind) {
                super("fault", null, false, false);
                code = 8 * place + kind;
            }
        }

        final String t;
        final State s;
        int p;

        ModelReader(String t, State s) {
            this.t = t;
            this.s = s;
        }

        int read() {
            try {
                theWord("board");
                s.wide = number(1, 6);
                s.high = number(1, 6);
                theWord("top");
                s.top = number(2, 7);
                while (peek() != 0) {
                    if (peek() != ';') {
                        throw new Fault(p, 1);
                    }
                    p++;
                    part();
                }
                if (s.opens().size() > 16) {
                    throw new Fault(t.length(), 4);
                }
            } catch (Fault f) {
                return f.code;
            }
            for (int c : s.opens()) {
                s.marks[c] = s.given[c] != 0 ? 1 << s.given[c] : s.full();
            }
            return -1;
        }

        /** The next sign that is no blank, 0 behind the last. */
        char peek() {
            while (p < t.length() && t.charAt(p) == ' ') {
                p++;
            }
            return p < t.length() ? t.charAt(p) : 0;
        }

        String word() {
            peek();
            int e = p;
            while (e < t.length() && t.charAt(e) >= 'a' && t.charAt(e) <= 'z') {
                e++;
            }
            return t.substring(p, e);
        }

        void theWord(String w) {
            if (!word().equals(w)) {
                throw new Fault(p, 1);
            }
            p += w.length();
        }

        int number(int least, int most) {
            if (!(peek() + "").matches("[0-9]")) {
                throw new Fault(p, 1);
            }
            int from = p;
            while (p < t.length() && t.charAt(p) >= '0' && t.charAt(p) <= '9') {
                p++;
            }
            java.math.BigInteger n = new java.math.BigInteger(t.substring(from, p));
            if (n.compareTo(java.math.BigInteger.valueOf(least)) < 0 || n.compareTo(java.math.BigInteger.valueOf(most)) > 0) {
                throw new Fault(from, 2);
            }
            return n.intValue();
        }

        int place;

        int cell(boolean seventh) {
            char c = peek();
            if (c < 'a' || c >= 'a' + s.wide) {
                throw new Fault(p, 1);
            }
            if (seventh) {
                throw new Fault(p, 3);
            }
            p++;
            place = p;
            if (p >= t.length() || t.charAt(p) < '0' || t.charAt(p) > '9') {
                throw new Fault(p, 1);
            }
            int cell = s.wide * (number(1, s.high) - 1) + c - 'a';
            if (s.block[cell]) {
                throw new Fault(place, 2);
            }
            return cell;
        }

        void part() {
            String w = word();
            int from = p;
            switch (w) {
                case "block":
                    p += 5;
                    do {
                        int c = cell(false);
                        boolean used = s.given[c] != 0;
                        for (Cage g : s.cages) {
                            for (int o : g.cells) {
                                used |= o == c;
                            }
                        }
                        if (used) {
                            throw new Fault(place, 2);
                        }
                        s.block[c] = true;
                    } while (peek() != 0 && peek() != ';');
                    break;
                case "given":
                    p += 5;
                    int c = cell(false);
                    if (s.given[c] != 0) {
                        throw new Fault(place, 2);
                    }
                    s.given[c] = number(1, s.top);
                    break;
                case "cage":
                case "across":
                case "down":
                    if (s.cages.size() == 12) {
                        throw new Fault(from, 3);
                    }
                    p += w.length();
                    s.cages.add(cagePart(w));
                    break;
                default:
                    throw new Fault(from, 1);
            }
        }

        Cage cagePart(String w) {
            TreeSet<Integer> in = new TreeSet<>();
            if (!w.equals("cage")) {
                int c = cell(false);
                boolean down = w.equals("down");
                for (int i = c; i < s.wide * s.high && (down || i / s.wide == c / s.wide) && !s.block[i]; i += down ? s.wide : 1) {
                    in.add(i);
                }
            }
            Cage g = new Cage();
            g.sort = List.of("sum", "product", "span", "any").indexOf(word());
            if (g.sort < 0) {
                throw new Fault(p, 1);
            }
            p += word().length();
            g.total = g.sort == 3 ? 0 : number(0, new int[] {99, 999999, 6}[g.sort]);
            if (word().equals("alike")) {
                p += 5;
                g.alike = true;
            }
            if (w.equals("cage")) {
                do {
                    if (!in.add(cell(in.size() == 6))) {
                        throw new Fault(place, 2);
                    }
                } while (peek() != 0 && peek() != ';');
            }
            g.cells = in.stream().mapToInt(i -> i).toArray();
            return g;
        }
    }

    String randomText(int mostCells, int mostTop) {
        int wide = 1 + random.nextInt(random.nextInt(4) == 0 ? 6 : 3);
        int high = 1 + random.nextInt(random.nextInt(4) == 0 ? 6 : 3);
        int top = 2 + random.nextInt(mostTop - 1);
        StringBuilder b = new StringBuilder("board " + wide + gap() + " " + high + gap() + "top" + gap() + top);
        List<String> names = new ArrayList<>();
        for (int c = 0; c < wide * high; c++) {
            names.add("" + (char) ('a' + c % wide) + (c / wide + 1));
        }
        List<String> blocked = new ArrayList<>(names);
        java.util.Collections.shuffle(blocked, random);
        int blocks = Math.max(random.nextInt(3) == 0 ? random.nextInt(3) : 0, wide * high - mostCells);
        blocks = Math.min(blocks, wide * high);
        if (blocks > 0) {
            b.append(gap()).append(";block ");
            for (String n : blocked.subList(0, blocks)) {
                b.append(n).append(gap());
                names.remove(n);
            }
        }
        int parts = random.nextInt(6);
        for (int i = 0; i < parts && !names.isEmpty(); i++) {
            b.append(gap()).append(";").append(gap());
            int sort = random.nextInt(4);
            String total = new String[] {"sum " + random.nextInt(18), "product " + (1 + random.nextInt(6)) * (1 + random.nextInt(6)) * (1 + random.nextInt(3)),
                "span" + random.nextInt(5), "any"}[sort] + (random.nextInt(3) == 0 ? " alike" : "");
            java.util.Collections.shuffle(names, random);
            switch (random.nextInt(4)) {
                case 0:
                    b.append("across ").append(names.get(0)).append(" ").append(total);
                    break;
                case 1:
                    b.append("down ").append(names.get(0)).append(" ").append(total);
                    break;
                default:
                    b.append("cage ").append(total).append(" ");
                    for (int j = 0; j < Math.min(names.size(), 1 + random.nextInt(random.nextInt(5) == 0 ? 6 : 4)); j++) {
                        b.append(names.get(j)).append(gap());
                    }
                    break;
            }
        }
        int givens = random.nextInt(3) == 0 ? random.nextInt(3) : 0;
        java.util.Collections.shuffle(names, random);
        for (int i = 0; i < givens && i < names.size(); i++) {
            b.append(";given ").append(names.get(i)).append(" ").append(1 + random.nextInt(top));
        }
        return b.length() > 400 ? b.substring(0, 400) : b.toString();
    }

    String gap() {
        return random.nextInt(4) == 0 ? " " : "";
    }

    String mutated(String text) {
        StringBuilder b = new StringBuilder(text);
        for (int many = 1 + random.nextInt(2); many > 0 && b.length() > 0; many--) {
            int at = random.nextInt(b.length());
            String signs = "abcdefgz0123456789;  A\u00e9alike";
            char sign = signs.charAt(random.nextInt(signs.length()));
            switch (random.nextInt(5)) {
                case 0:
                    b.deleteCharAt(at);
                    break;
                case 1:
                    b.setCharAt(at, sign);
                    break;
                case 2:
                    b.insert(at, sign);
                    break;
                case 3:
                    b.setLength(at);
                    break;
                default:
                    String[] parts = {"a1", ";", "cage any a1", "alike", "block a1", "given a1 1", " 7", "across a1 any", "b2 c3"};
                    b.insert(at, parts[random.nextInt(parts.length)]);
                    break;
            }
        }
        return b.length() > 400 ? b.substring(0, 400) : b.toString();
    }

    // ---- the runs ----

    void runTexts() {
        for (int i = 0; i < 40; i++) {
            String text = randomText(16, 7);
            tellText(random.nextInt(5) == 0 ? text : mutated(text));
            due("count(4)", x.count(4), s.cages.size());
            due("letter(-1)", x.letter(-1), s.text().length());
        }
    }

    void runActs(int mostCells, int mostTop, int acts) {
        tellText(randomText(mostCells, mostTop));
        if (random.nextInt(3) == 0) {
            actMake();
        }
        ask();
        for (int i = 0; i < acts; i++) {
            act();
            if (random.nextInt(6) == 0) {
                ask();
            }
        }
        ask();
    }

    public static void main(String[] args) {
        int runs = args.length > 0 ? Integer.parseInt(args[0]) : 1500;
        new ModelTest(0).ask();
        for (int seed = 1; seed <= runs; seed++) {
            new ModelTest(seed).runTexts();
            new ModelTest(seed).runActs(5, 4, 25);
            if (seed % 5 == 0) {
                new ModelTest(seed).runActs(6, 7, 12);
            }
        }
        System.out.println(calls + " calls beside the model, " + wrong + " answers wrong");
        if (wrong != 0) {
            System.exit(1);
        }
    }
}
