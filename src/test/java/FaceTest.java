import java.lang.reflect.Constructor;
import java.lang.reflect.Field;
import java.lang.reflect.Method;
import java.lang.reflect.Modifier;
import java.nio.charset.StandardCharsets;
import java.util.TreeSet;

/** The face is the document's and no more, a run of calls makes no objects, and no argument makes it throw or stay. */
public final class FaceTest {
    private static final String[] FACE = {
        "int feed(int,int,int,int,int)", "int end(int)", "int tell()", "int put(int,int)", "int lift(int)",
        "int strike(int,int)", "int give(int,int)", "int total(int,int)", "int step()", "int run()", "int make(int)",
        "int undo()", "int keep(int)", "int back(int)", "int cell(int,int)", "int cage(int,int)", "int has(int,int)",
        "int could(int,int)", "int must(int)", "int sets(int,int)", "int next(int)", "int weight(int)",
        "int solve(int)", "int solution(int,int)", "int agree(int)", "int hint(int)", "int wrong(int)",
        "long shared(int,int)", "int combos(int,int,int)", "int broken(int)", "int range(int,boolean)",
        "long idle()", "int letter(int)", "int count(int)"
    };
    // Boards that are hard to solve: all cells in many cages, full, alike, with totals that go not together.
    private static final String[] HARD = {
        "board 4 4 top 7;across a1 sum 16alike;across a2 sum 16alike;across a3 sum 16alike;across a4 sum 16alike"
            + ";down a1 sum 16alike;down b1 sum 16alike;down c1 sum 16alike;down d1 sum 17alike",
        "board 4 4 top 7;across a1 product 210;across a2 product 168;across a3 product 84;across a4 product 120"
            + ";down a1 product 210;down b1 product 168;down c1 product 84;down d1 product 60",
        "board 4 4 top 7;cage sum21alike a1b2c3d4a2b1;cage sum24alike a3b4c1d2a4b3;cage sum26alike c2d1c4d3a1b4"
            + ";cage sum22alike a2c3b3d4c1d1;cage sum25alike b1b2c2c4a4d2;cage sum20alike d3a3a1c1d4b4"
            + ";cage sum23alike a2c2a4b4d1d3;cage sum27alike b1b3c3c4d2a1;cage sum19alike a3b2c1c2d4d3",
        "board 5 4 top 7;block a1b1c1d1;cage any alike e1a2b2c2d2e2;cage span 6alike a3b3c3d3e3a4;cage any a2b3c4",
    };

    private static int wrong = 0;

    private static void due(String what, Object got, Object want) {
        if (!got.equals(want)) {
            wrong++;
            System.out.println(what + ": " + got + ", due is " + want);
        }
    }

    private static void face() {
        due("modifiers", Modifier.toString(CrossSums.class.getModifiers()), "public final");
        TreeSet<String> methods = new TreeSet<>();
        TreeSet<String> names = new TreeSet<>();
        for (Method m : CrossSums.class.getDeclaredMethods()) {
            if (!Modifier.isPrivate(m.getModifiers())) {
                StringBuilder b = new StringBuilder();
                for (Class<?> c : m.getParameterTypes()) {
                    b.append(b.length() > 0 ? "," : "").append(c);
                }
                methods.add(m.getReturnType() + " " + m.getName() + "(" + b + ")");
                names.add(m.getName());
                due(m.getName(), Modifier.toString(m.getModifiers()), "public");
            }
        }
        due("methods", methods.toString(), new TreeSet<>(java.util.List.of(FACE)).toString());
        for (Method m : CrossSums.class.getDeclaredMethods()) {
            due("private " + m.getName() + " bears a public name",
                    Modifier.isPrivate(m.getModifiers()) && names.contains(m.getName()), false);
        }
        for (Field f : CrossSums.class.getDeclaredFields()) {
            due(f.getName(), Modifier.isPrivate(f.getModifiers()) || f.getName().equals("NONE"), true);
        }
        for (Constructor<?> c : CrossSums.class.getDeclaredConstructors()) {
            due("constructor", c.toString(), "public CrossSums()");
        }
        for (Class<?> c : CrossSums.class.getDeclaredClasses()) {
            due(c.getName(), Modifier.isStatic(c.getModifiers()) && Modifier.isPrivate(c.getModifiers()), true);
        }
    }

    private static void tell(CrossSums x, String text) {
        byte[] bytes = text.getBytes(StandardCharsets.ISO_8859_1);
        x.end(0);
        for (int i = 0; i < bytes.length; i += 20) {
            int[] n = new int[5];
            for (int j = 0; j < 20 && i + j < bytes.length; j++) {
                n[j / 4] |= (bytes[i + j] & 255) << (24 - 8 * (j % 4));
            }
            x.feed(n[0], n[1], n[2], n[3], n[4]);
        }
        x.end(bytes.length);
        int cages = x.tell();
        due("tell of " + text, cages >= 0, true);
    }

    private static long callAll(CrossSums x, int a, int b) {
        long all = x.put(a, b) + x.lift(a) + x.strike(a, b) + x.give(a, b) + x.total(a, b) + x.keep(a) + x.back(a);
        all += x.cell(a, b) + x.cage(a, b) + x.has(a, b) + x.could(a, b) + x.must(a) + x.sets(a, b) + x.next(a);
        all += x.weight(a) + x.solve(a) + x.solution(a, b) + x.agree(a) + x.hint(a) + x.wrong(a) + x.shared(a, b);
        all += x.combos(a, b, a) + x.combos(0, a, b) + x.broken(a) + x.range(a, true) + x.range(b, false) + x.idle();
        all += x.letter(a) + x.count(a) + x.step() + x.run() + x.make(a) + x.undo() + x.end(b) + x.feed(a, b, a, b, a);
        return all + x.tell();
    }

    private static void anyArguments() {
        int[] odd = {Integer.MIN_VALUE, -1000000007, -64, -33, -32, -3, -2, -1, 0, 1, 2, 3, 5, 6, 7, 8, 9, 10, 11, 12, 13,
            15, 16, 31, 32, 33, 35, 36, 37, 45, 46, 50, 51, 63, 64, 65, 99, 100, 400, 401, 65536, Integer.MAX_VALUE};
        CrossSums fresh = new CrossSums();
        for (int a : odd) {
            for (int b : odd) {
                callAll(fresh, a, b);
            }
        }
        for (String text : HARD) {
            CrossSums x = new CrossSums();
            for (int i = 0; i < odd.length; i++) {
                tell(x, text);
                for (int j = i % 4; j < odd.length; j += 4) {
                    callAll(x, odd[j], odd[i]);
                }
            }
        }
    }

    private static void hardBoards() {
        for (String text : HARD) {
            CrossSums x = new CrossSums();
            tell(x, text);
            x.solve(50);
            x.hint(0);
            x.wrong(0);
            x.weight(0);
            x.make(5);
            x.idle();
            for (int c = 0; c < 20; c++) {
                x.agree(c);
                x.could(0, c);
            }
        }
    }

    private static void madeObjects() {
        CrossSums x = new CrossSums();
        tell(x, HARD[3]);
        callAll(x, 1, 1);
        com.sun.management.ThreadMXBean bean =
                (com.sun.management.ThreadMXBean) java.lang.management.ManagementFactory.getThreadMXBean();
        long thread = Thread.currentThread().getId();
        bean.getThreadAllocatedBytes(thread);
        long before = bean.getThreadAllocatedBytes(thread);
        for (int i = 0; i < 500; i++) {
            callAll(x, i % 9, i % 7);
        }
        long made = bean.getThreadAllocatedBytes(thread) - before;
        due("bytes of objects made by 18000 calls, below 10000", made < 10000 ? "few" : "" + made, "few");
    }

    public static void main(String[] args) {
        face();
        anyArguments();
        hardBoards();
        madeObjects();
        System.out.println(wrong == 0 ? "the face is as it is due" : wrong + " faults of the face");
        if (wrong != 0) {
            System.exit(1);
        }
    }
}
