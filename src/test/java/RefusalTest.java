import java.lang.reflect.Method;
import java.util.ArrayList;
import java.util.Arrays;
import java.util.Collections;
import java.util.List;
import java.util.Random;
import java.util.function.Consumer;

/**
 * Every call with numbers at, and next to, each of its bounds, in empty, full and late clocks: which refusal comes,
 * if any, that it changes nothing but how many there were, and that what is in mind changes nothing at all.
 */
public final class RefusalTest {
    private static final int MIN = Integer.MIN_VALUE;
    private static final int MAX = Integer.MAX_VALUE;
    private static final int CALLS = 512;
    private static final int BATCH = 35;
    private static int wrong = 0;
    private static int asked = 0;

    /** A clock, and how often it was called. */
    private static final class Used {
        private final ClockOfSwallows clock = new ClockOfSwallows();
        private int calls = 0;

        int call(String name, int... numbers) {
            calls++;
            if (calls > CALLS) {
                throw new IllegalStateException("a test makes more than 512 calls");
            }
            Class<?>[] types = new Class<?>[numbers.length];
            Arrays.fill(types, int.class);
            try {
                Method m = ClockOfSwallows.class.getDeclaredMethod(name, types);
                return (int) m.invoke(clock, Arrays.stream(numbers).boxed().toArray());
            } catch (ReflectiveOperationException e) {
                throw new IllegalStateException(name + Arrays.toString(numbers), e);
            }
        }

        void feed(String letters) {
            letters.chars().forEach(c -> call("feed", c));
        }
    }

    /** A way to make a clock, and what the refusals depend on there. */
    private static final class State {
        private final String name;
        private final Consumer<Used> make;
        private int birds = 0;
        private int wires = 5;
        private int fullWire = -1;
        private int hour = 0;
        private int letters = 0;
        private int back = 0;
        private boolean image = false;
        private int[] row = {};

        State(String name, Consumer<Used> make) {
            this.name = name;
            this.make = make;
        }

        Used made() {
            Used x = new Used();
            make.accept(x);
            for (int v : row) {
                x.call("row", v);
            }
            return x;
        }

        boolean noWire(int wire) {
            return wire < 0 || wire >= wires;
        }

        boolean noBird(int bird) {
            return bird < 0 || bird >= birds;
        }

        boolean rowAbove(int most) {
            return row.length > 4 || Arrays.stream(row).anyMatch(v -> v > most);
        }
    }

    private interface Rule {
        /** The refusal that is due, or 0. */
        int due(State s, int[] a);
    }

    private static final class Call {
        private final String name;
        private final Rule rule;
        private final int[][] numbers;

        Call(String name, Rule rule, int[]... numbers) {
            this.name = name;
            this.rule = rule;
            this.numbers = numbers;
        }

        /** All ways to take one of each argument's numbers. */
        List<int[]> all() {
            List<int[]> all = List.of(new int[0]);
            for (int[] of : numbers) {
                List<int[]> more = new ArrayList<>();
                for (int[] a : all) {
                    for (int v : of) {
                        int[] b = Arrays.copyOf(a, a.length + 1);
                        b[a.length] = v;
                        more.add(b);
                    }
                }
                all = more;
            }
            return all;
        }
    }

    // ---- the clocks ----

    private static State some() {
        State s = new State("some", x -> {
            x.feed("b122;b314;n2;");
            x.call("town");
            x.call("image");
            x.call("comes", 5, 9, 1);
            x.call("weight", 2, 7);
            x.call("feeds", 3);
            x.call("cat", 2);
            x.call("hawk");
            x.feed("b000;n1;");
        });
        s.birds = 3;
        s.hour = 3;
        s.letters = 8;
        s.back = 3;
        s.image = true;
        s.row = new int[] {0, 11, 10};
        return s;
    }

    private static State full() {
        State s = new State("full", x -> {
            x.call("image");
            x.call("sixth", 1);
            for (int kind = 0; kind < 4; kind++) {
                x.call("comes", new int[] {0, 2, 4, 0}[kind], kind, 2);
            }
            x.call("comes", 1, 0, 5);
            x.call("comes", 1, 1, 4);
            x.call("comes", 3, 2, 4);
            x.call("comes", 5, 9, 0);
            for (int i = 0; i < 9; i++) {
                x.call("feeds", -1);
            }
            x.feed("n1;".repeat(32));
        });
        s.birds = 8;
        s.wires = 6;
        s.fullWire = 2;
        s.hour = 9;
        s.letters = 96;
        s.back = 8;
        s.image = true;
        s.row = new int[] {5, 5, 5, 5, 5, 5, 5, 5, 5, 5, 5, 5};
        return s;
    }

    private static State late() {
        State s = new State("late", x -> {
            for (int i = 0; i < 10; i++) {
                x.feed("n9;".repeat(11));
                x.call("town");
            }
            x.call("comes", 0, 0, 3);
            x.call("comes", 1, 2, 3);
            for (int i = 0; i < 9; i++) {
                x.call("feeds", 4);
            }
        });
        s.birds = 2;
        s.hour = 999;
        s.back = 8;
        return s;
    }

    private static State crowded() {
        State s = new State("4 on a WIRE", x -> {
            for (int kind = 0; kind < 5; kind++) {
                x.call("comes", kind, 9 - kind, kind == 3 ? 0 : 4);
            }
            x.call("cat", 2);
        });
        s.birds = 5;
        s.fullWire = 4;
        s.back = 1;
        return s;
    }

    private static State withRow(String name, int... row) {
        State s = new State(name, x -> {
            x.call("comes", 0, 0, 4);
            x.call("rain");
        });
        s.birds = 1;
        s.back = 1;
        s.row = row;
        return s;
    }

    private static List<State> states() {
        return List.of(new State("new", x -> { }), some(), crowded(), full(), late(),
            withRow("a ROW of 4", 1, 0, 1, 6), withRow("a ROW of 5", 0, 0, 0, 0, 0), withRow("a ROW with 7", 0, 7),
            withRow("a ROW with 63", 63, 0, 0, 0), withRow("a ROW with 64", 0, 0, 0, 64),
            withRow("a ROW with 99", 99));
    }

    // ---- the refusals, in the order in which the document tells them ----

    private static int first(int... refusals) {
        for (int r : refusals) {
            if (r != 0) {
                return r;
            }
        }
        return 0;
    }

    private static int below(int v, int least) {
        return v < least ? -4 : 0;
    }

    private static int above(int v, int most) {
        return v > most ? -6 : 0;
    }

    private static int other(int what, int most) {
        return what < 0 || what > most ? -2 : 0;
    }

    private static int when(boolean is, int refusal) {
        return is ? refusal : 0;
    }

    private static int[] about(int least, int most) {
        return new int[] {MIN, least - 1, least, most, most + 1, MAX};
    }

    private static Rule what(int most) {
        return (s, a) -> other(a[0], most);
    }

    private static Rule from(int least, int most) {
        return (s, a) -> first(below(a[0], least), above(a[0], most));
    }

    private static Rule hoursAndWhat(int least) {
        return (s, a) -> first(below(a[0], least), above(a[0], 20), other(a[a.length - 1], 1));
    }

    private static final int[] WIRES = {MIN, -2, -1, 0, 2, 4, 5, 6, MAX};
    private static final int[] BIRDS = {MIN, -1, 0, 1, 2, 3, 7, 8, MAX};
    private static final Rule NEVER = (s, a) -> 0;

    private static List<Call> changing() {
        return List.of(
            new Call("feed", (s, a) -> first(below(a[0], 0), above(a[0], 255), when(s.letters == 96, -6)),
                about(0, 255)),
            new Call("comes", (s, a) -> first(when(s.noWire(a[2]), -1), other(a[0], 5), below(a[1], 0), above(a[1], 9),
                when(s.birds == 8, -6), when(a[2] == s.fullWire, -3)), about(0, 5), about(0, 9), WIRES),
            new Call("weight", (s, a) -> first(when(s.noWire(a[0]), -1), below(a[1], 0), above(a[1], 11)), WIRES,
                about(0, 11)),
            new Call("sixth", what(1), about(0, 1)),
            new Call("feeds", (s, a) -> first(when(a[0] != -1 && s.noWire(a[0]), -1), when(s.hour == 999, -6)), WIRES),
            new Call("cat", (s, a) -> when(s.noWire(a[0]), -1), WIRES),
            new Call("hawk", NEVER), new Call("rain", NEVER),
            new Call("back", (s, a) -> when(s.back == 0, -3)),
            new Call("row", (s, a) -> first(below(a[0], 0), above(a[0], 99), when(s.row.length == 12, -6)),
                about(0, 99)),
            new Call("judge", NEVER), new Call("clear", NEVER), new Call("image", NEVER),
            new Call("restore", (s, a) -> when(!s.image, -3)));
    }

    private static List<Call> looking() {
        return List.of(
            new Call("bird", (s, a) -> first(when(s.noBird(a[0]), -1), other(a[1], 2)), BIRDS, about(0, 2)),
            new Call("wire", (s, a) -> first(when(s.noWire(a[0]), -1), other(a[1], 1)), WIRES, about(0, 1)),
            new Call("behind", hoursAndWhat(0), about(0, 20), about(0, 1)),
            new Call("where", (s, a) -> first(when(s.noBird(a[0]), -1), below(a[1], 0), above(a[1], 20)), BIRDS,
                about(0, 20)),
            new Call("firstWrong", NEVER),
            new Call("allWrong", from(0, 20), about(0, 20)),
            new Call("feeding", (s, a) -> first(below(a[0], 1), below(a[1], -1), above(a[0], 4)), about(1, 4),
                about(-1, 3)),
            new Call("closest", what(1), about(0, 1)),
            new Call("highest", from(0, 4), about(0, 4)),
            new Call("happened", NEVER),
            new Call("tellsMost", what(1), about(0, 1)),
            new Call("mixed", NEVER),
            new Call("near", from(0, 11), about(0, 11)),
            new Call("read", what(1), about(0, 1)),
            new Call("bestWeight", from(1, 20), about(1, 20)),
            new Call("bestWire", (s, a) -> first(when(s.noBird(a[0]), -1), other(a[1], 1)), BIRDS, about(0, 1)),
            new Call("chord", what(1), about(0, 1)),
            new Call("plays", (s, a) -> first(below(a[0], -1), when(s.rowAbove(63), -3)), about(-1, 3)));
    }

    private static List<Call> lookingOn() {
        return List.of(
            new Call("trains", (s, a) -> first(below(a[0], 0), below(a[1], 1), below(a[2], 0), above(a[0], 11),
                above(a[1], 12), above(a[2], 20), other(a[3], 1)), about(0, 11), about(1, 12), about(0, 20),
                about(0, 1)),
            new Call("whoMoved", (s, a) -> first(other(a[0], 2), when(s.rowAbove(6), -3)), about(0, 2)),
            new Call("watch", what(2), about(0, 2)),
            new Call("winter", (s, a) -> first(other(a[0], 1), when(s.row.length == 0, -3)), about(0, 1)),
            new Call("settled", NEVER), new Call("round", NEVER),
            new Call("always", (s, a) -> first(when(s.noWire(a[0]), -1), other(a[1], 1)), WIRES, about(0, 1)),
            new Call("catWorth", NEVER),
            new Call("spread", what(2), about(0, 2)),
            new Call("later", hoursAndWhat(0), about(0, 20), about(0, 1)),
            new Call("stayed", from(0, 20), about(0, 20)),
            new Call("lured", (s, a) -> first(when(s.noBird(a[0]) || s.noWire(a[1]), -1), below(a[2], -1)), BIRDS,
                WIRES, about(-1, 3)),
            new Call("right", hoursAndWhat(0), about(0, 20), about(0, 1)),
            new Call("worstBird", NEVER),
            new Call("gather", from(1, 6), about(1, 6)),
            new Call("lots", hoursAndWhat(1), about(1, 20), new int[] {MIN, -1, 0, MAX}, about(0, 1)),
            new Call("count", NEVER, new int[] {MIN, -1, 0, 1, 2, 3, 4, 5, 6, 7, 8, 9, 10, 11, 16, 17, MAX}));
    }

    // ---- what is asked of them ----

    private static void due(boolean is, String told) {
        asked++;
        if (!is && wrong++ < 40) {
            System.out.println(told);
        }
    }

    private static int[] refusals(Used x) {
        int[] counts = new int[7];
        for (int r = 1; r <= 6; r++) {
            counts[r] = x.call("count", 10 + r);
        }
        return counts;
    }

    private static void look(Used x, List<Integer> seen) {
        int[] counts = new int[8];
        for (int what = 0; what <= 7; what++) {
            counts[what] = x.call("count", what);
            seen.add(counts[what]);
        }
        for (int b = 0; b < counts[0]; b++) {
            seen.add(100 * x.call("bird", b, 0) + 10 * x.call("bird", b, 1) + x.call("bird", b, 2));
        }
        for (int w = 0; w < counts[1]; w++) {
            seen.add(10 * x.call("wire", w, 0) + x.call("wire", w, 1));
        }
    }

    /** All that can be known of a clock but its refusals: it is not the same then. */
    private static List<Integer> known(Used x) {
        List<Integer> seen = new ArrayList<>();
        look(x, seen);
        if (x.call("count", 6) > 0) {
            seen.add(x.call("winter", 1));
            seen.add(x.call("happened"));
        }
        seen.add(x.call("judge"));
        int birds = x.call("count", 0);
        for (int i = x.call("count", 7); i > 0; i--) {
            seen.add(x.call("back"));
            for (int b = 0; b < birds; b++) {
                seen.add(x.call("bird", b, 2));
            }
        }
        seen.add(x.call("town"));
        look(x, seen);
        seen.add(x.call("restore"));
        look(x, seen);
        return seen;
    }

    /** Makes calls that are to leave all as it is; the count of each refusal is one more. */
    private static void askSome(State s, Call c, List<int[]> some) {
        Used x = s.made();
        int[] counts = refusals(x);
        for (int[] a : some) {
            int due = c.rule.due(s, a);
            int is = x.call(c.name, a);
            boolean refused = is < 0 && is >= -6;
            due(refused ? is == due : due == 0, s.name + ": " + c.name + Arrays.toString(a) + " answered " + is
                + ", refusal that is due: " + due);
            counts[-due] += due == 0 ? 0 : 1;
        }
        counts[0] = 0;
        due(Arrays.equals(counts, refusals(x)), s.name + ": how often " + c.name + " was refused");
        due(known(x).equals(known(s.made())), s.name + ": " + c.name + " changed what it must not");
    }

    private static void askAll(State s, Call c, List<int[]> all) {
        for (int i = 0; i < all.size(); i += BATCH) {
            askSome(s, c, all.subList(i, Math.min(i + BATCH, all.size())));
        }
    }

    private static void askChanging(State s, Call c) {
        askAll(s, c, c.all().stream().filter(a -> c.rule.due(s, a) != 0).toList());
        for (int[] a : c.all()) {
            if (c.rule.due(s, a) == 0) {
                Used x = s.made();
                int is = x.call(c.name, a);
                due(is >= 0 || is == -9, s.name + ": " + c.name + Arrays.toString(a) + " answered " + is
                    + " and is not to be refused");
                due(Arrays.equals(refusals(x), new int[7]), s.name + ": " + c.name + " was not refused");
            }
        }
    }

    /** What is answered is the same whatever was looked at ahead of it. */
    private static void askTogether(State s, List<Call> calls) {
        List<Call> mixed = new ArrayList<>();
        List<int[]> numbers = new ArrayList<>();
        for (Call c : calls) {
            for (int[] a : c.all()) {
                if (c.rule.due(s, a) == 0) {
                    mixed.add(c);
                    numbers.add(a);
                }
            }
        }
        Collections.shuffle(mixed, new Random(7));
        Collections.shuffle(numbers, new Random(7));
        Used x = s.made();
        for (int i = 0; i < mixed.size(); i++) {
            x = x.calls < CALLS ? x : s.made();
            String name = mixed.get(i).name;
            int alone = s.made().call(name, numbers.get(i));
            due(x.call(name, numbers.get(i)) == alone, s.name + ": " + name + Arrays.toString(numbers.get(i))
                + " answers another number behind other looks than " + alone);
        }
    }

    /** A TOWN with a FAULT takes its letters away, and changes and counts nothing. */
    private static void askFaults(State s) {
        for (String text : List.of("x", "", "b000", "n0;b", "h;s;r;c0;w001;f9;", "s;w511;h;n1;b900;", "c0;n1;w999;")) {
            Used x = s.made();
            Used y = s.made();
            x.call("town");
            y.call("town");
            x.feed(text);
            due(x.call("town") <= -1000, s.name + ": no FAULT: " + text);
            due(Arrays.equals(refusals(x), refusals(y)), s.name + ": a FAULT counts nothing");
            due(known(x).equals(known(y)), s.name + ": a FAULT changes nothing: " + text);
        }
    }

    public static void main(String[] args) {
        for (State s : states()) {
            changing().forEach(c -> askChanging(s, c));
            List<Call> looking = new ArrayList<>(looking());
            looking.addAll(lookingOn());
            looking.forEach(c -> askAll(s, c, c.all()));
            askTogether(s, looking);
            askFaults(s);
        }
        System.out.println(asked + " things asked of refusals, " + wrong + " are not as due");
        if (wrong != 0) {
            System.exit(1);
        }
    }
}
