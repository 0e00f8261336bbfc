import java.lang.reflect.InvocationTargetException;
import java.lang.reflect.Method;
import java.util.ArrayList;
import java.util.Arrays;
import java.util.Comparator;
import java.util.List;
import java.util.Random;

/** Random runs of calls, the same on the class and on the Oracle: each answer is to be the same. */
public final class OracleTest {
    private static final int RUNS = 150;
    private static final int CALLS = 512;
    private static final List<String> DEAR = List.of("feeding", "highest", "lured", "gather", "read");
    private static int wrong = 0;
    private static long compared = 0;

    private final Random random;
    private final int run;
    private final ClockOfSwallows clock = new ClockOfSwallows();
    private final Oracle oracle = new Oracle();
    private final List<Method> methods = new ArrayList<>();
    private int left = CALLS;

    private OracleTest(int run) {
        this.run = run;
        random = new Random(run);
        for (Method m : ClockOfSwallows.class.getDeclaredMethods()) {
            if (java.lang.reflect.Modifier.isPublic(m.getModifiers())) {
                methods.add(m);
            }
        }
        methods.sort(Comparator.comparing(Method::getName));
    }

    private int both(String name, Object... args) {
        Class<?>[] types = new Class<?>[args.length];
        Arrays.fill(types, int.class);
        left--;
        compared++;
        try {
            int is = (int) ClockOfSwallows.class.getDeclaredMethod(name, types).invoke(clock, args);
            int due = (int) Oracle.class.getDeclaredMethod(name, types).invoke(oracle, args);
            if (is != due && wrong++ < 20) {
                System.out.println("run " + run + ", call " + (CALLS - left) + ": " + name + Arrays.toString(args)
                    + " answered " + is + ", due is " + due);
            }
            return due;
        } catch (InvocationTargetException e) {
            throw new IllegalStateException(name + Arrays.toString(args), e.getCause());
        } catch (ReflectiveOperationException e) {
            throw new IllegalStateException(e);
        }
    }

    private int number() {
        int[] odd = {Integer.MIN_VALUE, Integer.MAX_VALUE, -2, 12, 13, 20, 21, 99, 100, 255, 256};
        int sort = random.nextInt(20);
        if (sort == 0) {
            return odd[random.nextInt(odd.length)];
        }
        return sort < 4 ? random.nextInt(24) - 2 : random.nextInt(8) - 1;
    }

    private String statement() {
        String plain = "bbbbwfncchrs";
        char c = plain.charAt(random.nextInt(plain.length()));
        StringBuilder s = new StringBuilder().append(c);
        if (c == 'b') {
            s.append(random.nextInt(random.nextInt(9) == 0 ? 10 : 6)).append(random.nextInt(10));
            s.append(random.nextInt(random.nextInt(4) == 0 ? 7 : 5));
        } else if (c == 'w') {
            s.append(random.nextInt(6)).append(random.nextInt(10) > 6 ? 1 : 0).append(random.nextInt(10));
        } else if (c == 'n') {
            s.append(random.nextInt(10));
        } else if (c == 'f' || c == 'c') {
            s.append(random.nextInt(random.nextInt(4) == 0 ? 7 : 5));
        }
        return s.append(';').toString();
    }

    private void tellTown() {
        StringBuilder text = new StringBuilder();
        int statements = 1 + random.nextInt(random.nextBoolean() ? 3 : 12);
        for (int i = 0; i < statements; i++) {
            text.append(statement());
        }
        if (random.nextInt(4) == 0) {
            text.setCharAt(random.nextInt(text.length()), "bwfnchrs;0129 x".charAt(random.nextInt(15)));
        }
        if (random.nextInt(6) == 0) {
            text.setLength(random.nextInt(text.length()));
        }
        for (int i = 0; i < text.length() && left > 1; i++) {
            both("feed", (int) text.charAt(i));
        }
        both("town");
    }

    private void tellRow() {
        int n = random.nextInt(6);
        String by = List.of("behind", "chord", "wrong", "any").get(random.nextInt(4));
        for (int i = 0; i < n && left > 4; i++) {
            int v = random.nextInt(24);
            if (by.equals("behind")) {
                v = both("behind", i, 0);
            } else if (by.equals("chord")) {
                v = random.nextInt(3) == 0 ? random.nextInt(64) : both("chord", 0);
            } else if (by.equals("wrong")) {
                v = random.nextInt(2) == 0 ? random.nextInt(8) : both("behind", i + 1, 1);
            }
            both("row", v);
        }
    }

    private void anyCall() {
        Method m = methods.get(random.nextInt(methods.size()));
        if (DEAR.contains(m.getName()) && random.nextInt(3) > 0) {
            return;
        }
        boolean rare = List.of("restore", "clear", "judge", "town").contains(m.getName());
        if (rare && random.nextInt(3) > 0) {
            return;
        }
        Object[] args = new Object[m.getParameterCount()];
        for (int i = 0; i < args.length; i++) {
            args[i] = m.getName().equals("lots") && i == 1 ? (Object) random.nextInt() : (Object) number();
        }
        both(m.getName(), args);
    }

    private void lateHours() {
        String late = "n9;n9;n9;n9;n9;n9;n9;n9;n9;n9;n9;n9;";
        for (int k = 0; k < 11 && left > 40; k++) {
            for (int i = 0; i < late.length(); i++) {
                both("feed", (int) late.charAt(i));
            }
            both("town");
        }
    }

    private void go() {
        if (run % 25 == 0) {
            lateHours();
        }
        while (left > 0) {
            int sort = random.nextInt(30);
            if (sort == 0) {
                tellTown();
            } else if (sort < 3) {
                tellRow();
            } else if (sort < 5) {
                both("comes", random.nextInt(6), random.nextInt(10), random.nextInt(5));
            } else if (sort < 7) {
                both("count", random.nextInt(18));
            } else {
                anyCall();
            }
        }
    }

    public static void main(String[] args) {
        int runs = args.length > 0 ? Integer.parseInt(args[0]) : RUNS;
        for (int run = 0; run < runs; run++) {
            new OracleTest(run).go();
        }
        System.out.println(compared + " calls compared, " + wrong + " answers are not as due");
        if (wrong != 0) {
            System.exit(1);
        }
    }
}
