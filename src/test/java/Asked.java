/** What the tests ask of clocks: answers that are not as due are told and counted. */
abstract class Asked {
    private static final int TEXT = 96;
    private static int wrong = 0;
    private static int asked = 0;
    private static String promise = "";

    static void due(int want, int got, String call) {
        asked++;
        if (got != want) {
            wrong++;
            System.out.println(promise + ": " + call + " answered " + got + ", due is " + want);
        }
    }

    static int tell(ClockOfSwallows x, String letters) {
        for (int i = 0; i < letters.length(); i++) {
            x.feed(letters.charAt(i));
        }
        return x.town();
    }

    /** A clock to which a TOWN without FAULT is told, in more texts than one if it is long. */
    static ClockOfSwallows clock(String town) {
        ClockOfSwallows x = new ClockOfSwallows();
        String rest = town;
        while (!rest.isEmpty()) {
            int end = rest.length() <= TEXT ? rest.length() : rest.lastIndexOf(';', TEXT - 1) + 1;
            String text = rest.substring(0, end);
            due((int) text.chars().filter(c -> c == ';').count(), tell(x, text), "town " + text);
            rest = rest.substring(end);
        }
        return x;
    }

    /** A TOWN that ends so many HOURS later than what is told in it. */
    static String hours(int n) {
        return "n9;".repeat(n / 9) + "n" + n % 9 + ";";
    }

    static void row(ClockOfSwallows x, int... numbers) {
        x.clear();
        for (int v : numbers) {
            x.row(v);
        }
    }

    /** The ROW becomes what is SHOWN behind 0, 1, .. HOURS. */
    static void rowAsShown(ClockOfSwallows x, int n) {
        x.clear();
        for (int i = 0; i < n; i++) {
            x.row(x.behind(i, 0));
        }
    }

    static void seats(ClockOfSwallows x, String told, int... places) {
        for (int b = 0; b < places.length; b++) {
            due(places[b], x.bird(b, 2), told + ": the WIRE of " + b);
        }
    }

    /** What is answered to -1 (how far, or how many) and to 0, 1, .. (the way), and -9 behind its end. */
    static void way(java.util.function.IntUnaryOperator call, String told, int measure, int... flies) {
        due(measure, call.applyAsInt(-1), told + ": the way's measure");
        for (int i = 0; i < flies.length; i++) {
            due(flies[i], call.applyAsInt(i), told + ": i-th " + i);
        }
        due(-9, call.applyAsInt(flies.length), told + ": behind its end");
        due(-9, call.applyAsInt(Integer.MAX_VALUE), told + ": far behind its end");
    }

    static void ask(String name, Runnable asks) {
        promise = "promise " + name;
        asks.run();
    }

    static void end() {
        System.out.println(asked + " answers asked, " + wrong + " are not as due");
        if (wrong != 0) {
            System.exit(1);
        }
    }
}
