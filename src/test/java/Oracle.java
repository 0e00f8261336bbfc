import java.util.ArrayDeque;
import java.util.ArrayList;
import java.util.Arrays;
import java.util.HashMap;
import java.util.HashSet;
import java.util.List;
import java.util.Map;
import java.util.Set;
import java.util.function.IntUnaryOperator;
import java.util.function.Predicate;

/** The document told once more, by trying everything: slow, and written without a look at the class. */
final class Oracle {
    /** A clock as it is at one time; whoever wants another makes a copy. */
    static final class Clock {
        List<int[]> birds = new ArrayList<>(); // kind, figure, wire
        int[] weights = {0, 1, 2, 3, 4, 5};
        boolean sixth;
        int hour;

        Clock copy() {
            Clock c = new Clock();
            for (int[] b : birds) {
                c.birds.add(b.clone());
            }
            c.weights = weights.clone();
            c.sixth = sixth;
            c.hour = hour;
            return c;
        }

        int wires() {
            return sixth ? 6 : 5;
        }

        int on(int wire) {
            return (int) birds.stream().filter(b -> b[2] == wire).count();
        }

        boolean room(int wire) {
            return wire >= 0 && wire < wires() && on(wire) < 4;
        }

        int shown() {
            return birds.stream().mapToInt(b -> weights[b[2]]).sum() % 12;
        }

        int wrong() {
            int d = Math.abs(shown() - hour % 12);
            return Math.min(d, 12 - d);
        }

        int[] seats() {
            return birds.stream().mapToInt(b -> b[2]).toArray();
        }

        int chord() {
            return birds.stream().mapToInt(b -> 1 << b[2]).reduce(0, (x, y) -> x | y);
        }

        private int likeBird(int own, int flies) {
            return flies < 0 ? own : own + Integer.signum(flies - own);
        }

        private int likeYoung(int own, int flies, int figure) {
            int w = likeBird(own, flies);
            if ((hour + figure) % 3 == 0 && w > 0) {
                w--;
            }
            return w;
        }

        private int likeOld(int own, int flies) {
            if (flies >= 0 && (flies == own + 1 || flies == own - 1)) {
                return own;
            }
            return likeBird(own, flies);
        }

        int wants(int[] b, int flies) {
            if (b[0] == 0) {
                return likeBird(b[2], flies);
            }
            if (b[0] == 1) {
                return likeYoung(b[2], flies, b[1]);
            }
            if (b[0] == 2) {
                return likeOld(b[2], flies);
            }
            if (b[0] == 3) {
                if (flies >= 0 && flies - b[2] <= b[1] && b[2] - flies <= b[1]) {
                    return flies;
                }
                return likeYoung(b[2], flies, b[1]);
            }
            if (b[0] == 4) {
                return on(b[2]) == 1 ? likeBird(b[2], flies) : likeOld(b[2], flies);
            }
            int w = likeOld(b[2], flies);
            return w > b[1] / 3 ? b[1] / 3 : w;
        }

        /** An HOUR; answers itself. */
        Clock hour(int flies) {
            for (int[] b : birds) {
                int w = wants(b, flies);
                if (w != b[2] && room(w)) {
                    b[2] = w;
                }
            }
            hour++;
            return this;
        }

        Clock hours(int n) {
            for (int i = 0; i < n; i++) {
                hour(-1);
            }
            return this;
        }

        int cat(int wire) {
            int went = 0;
            for (int[] b : birds) {
                if (b[2] != wire) {
                    continue;
                }
                List<Integer> order = new ArrayList<>();
                for (int w = wire + 1; w < wires(); w++) {
                    order.add(w);
                }
                for (int w = wire - 1; w >= 0; w--) {
                    order.add(w);
                }
                for (int w : order) {
                    if (room(w)) {
                        b[2] = w;
                        went++;
                        break;
                    }
                }
            }
            return went;
        }

        int drive(boolean up) {
            int went = 0;
            for (int[] b : birds) {
                int was = b[2];
                b[2] = -1;
                int to = -1;
                for (int i = 0; i < wires() && to < 0; i++) {
                    int w = up ? wires() - 1 - i : i;
                    if (room(w)) {
                        to = w;
                    }
                }
                b[2] = to;
                if (to != was) {
                    went++;
                }
            }
            return went;
        }

        Clock thing(int t) {
            switch (t) {
                case 0 -> { }
                case 1 -> drive(true);
                case 2 -> drive(false);
                default -> cat(t - 3);
            }
            return this;
        }

        void hang(boolean is) {
            if (sixth && !is) {
                for (int[] b : birds) {
                    if (b[2] == 5) {
                        int w = 4;
                        while (!room(w)) {
                            w--;
                        }
                        b[2] = w;
                    }
                }
            }
            sixth = is;
        }
    }

    private Clock now = new Clock();
    private Clock image;
    private final ArrayDeque<Clock> past = new ArrayDeque<>();
    private StringBuilder letters = new StringBuilder();
    private final List<Integer> row = new ArrayList<>();
    private final Map<Integer, Integer> refusals = new HashMap<>();

    private int no(int number) {
        refusals.merge(number, 1, Integer::sum);
        return number;
    }

    private boolean wireIs(int w) {
        return w >= 0 && w < now.wires();
    }

    private boolean birdIs(int b) {
        return b >= 0 && b < now.birds.size();
    }

    private static boolean in(int v, int a, int b) {
        return v >= a && v <= b;
    }

    /** All ways for n HOURS in their order: none (0) first, then WIRES rising (WIRE and 1). */
    private List<int[]> ways(int n) {
        List<int[]> all = new ArrayList<>();
        all.add(new int[0]);
        for (int i = 0; i < n; i++) {
            List<int[]> longer = new ArrayList<>();
            for (int[] w : all) {
                for (int f = 0; f <= now.wires(); f++) {
                    int[] l = Arrays.copyOf(w, w.length + 1);
                    l[w.length] = f;
                    longer.add(l);
                }
            }
            all = longer;
        }
        return all;
    }

    private List<Clock> along(int[] way) {
        List<Clock> all = new ArrayList<>();
        Clock c = now;
        for (int f : way) {
            c = c.copy().hour(f - 1);
            all.add(c);
        }
        return all;
    }

    private int[] firstWay(int n, Predicate<List<Clock>> good) {
        for (int[] w : ways(n)) {
            if (good.test(along(w))) {
                return w;
            }
        }
        return null;
    }

    private static int at(int[] way, int i) {
        return way == null || i >= way.length ? -9 : way[i];
    }

    int feed(int letter) {
        if (letter < 0) {
            return no(-4);
        }
        if (letter > 255 || letters.length() == 96) {
            return no(-6);
        }
        letters.append((char) letter);
        return letters.length();
    }

    int town() {
        String t = letters.toString();
        letters = new StringBuilder();
        int p = 0;
        List<String> statements = new ArrayList<>();
        while (p < t.length() || statements.isEmpty()) {
            String form = "";
            char c = p < t.length() ? t.charAt(p) : 0;
            if (c == 'b' || c == 'w') {
                form = c + "ddd;";
            } else if (c == 'f' || c == 'n' || c == 'c') {
                form = c + "d;";
            } else if (c == 'h' || c == 'r' || c == 's') {
                form = c + ";";
            } else {
                return -1000 - p;
            }
            for (int i = 0; i < form.length(); i++) {
                if (p + i >= t.length()) {
                    return -1000 - t.length();
                }
                char is = t.charAt(p + i);
                boolean fits = form.charAt(i) == 'd' ? is >= '0' && is <= '9' : is == form.charAt(i);
                if (!fits) {
                    return -1000 - (p + i);
                }
            }
            statements.add(t.substring(p, p + form.length()));
            p += form.length();
        }
        Clock c = now.copy();
        int place = 0;
        for (String s : statements) {
            if (!does(c, s)) {
                return -2000 - place;
            }
            place += s.length();
        }
        now = c;
        past.clear();
        return statements.size();
    }

    private static boolean does(Clock c, String s) {
        int d = s.length() > 2 ? s.charAt(1) - '0' : 0;
        switch (s.charAt(0)) {
            case 'b':
                int wire = s.charAt(3) - '0';
                if (d > 5 || wire >= c.wires() || !c.room(wire) || c.birds.size() == 8) {
                    return false;
                }
                c.birds.add(new int[] {d, s.charAt(2) - '0', wire});
                return true;
            case 'w':
                int v = Integer.parseInt(s.substring(2, 4));
                if (d >= c.wires() || v > 11) {
                    return false;
                }
                c.weights[d] = v;
                return true;
            case 'f':
                if (d >= c.wires() || c.hour > 998) {
                    return false;
                }
                c.hour(d);
                return true;
            case 'n':
                if (c.hour + d > 999) {
                    return false;
                }
                c.hours(d);
                return true;
            case 'c':
                if (d >= c.wires()) {
                    return false;
                }
                c.cat(d);
                return true;
            case 'h':
                c.drive(true);
                return true;
            case 'r':
                c.drive(false);
                return true;
            default:
                c.hang(!c.sixth);
                return true;
        }
    }

    int bird(int bird, int what) {
        if (!birdIs(bird)) {
            return no(-1);
        }
        return in(what, 0, 2) ? now.birds.get(bird)[what] : no(-2);
    }

    int comes(int kind, int figure, int wire) {
        if (!wireIs(wire)) {
            return no(-1);
        }
        if (!in(kind, 0, 5)) {
            return no(-2);
        }
        if (figure < 0) {
            return no(-4);
        }
        if (figure > 9 || now.birds.size() == 8) {
            return no(-6);
        }
        if (!now.room(wire)) {
            return no(-3);
        }
        past.clear();
        now.birds.add(new int[] {kind, figure, wire});
        return now.birds.size() - 1;
    }

    int wire(int wire, int what) {
        if (!wireIs(wire)) {
            return no(-1);
        }
        if (what == 0) {
            return now.weights[wire];
        }
        return what == 1 ? now.on(wire) : no(-2);
    }

    int weight(int wire, int v) {
        if (!wireIs(wire)) {
            return no(-1);
        }
        if (v < 0) {
            return no(-4);
        }
        if (v > 11) {
            return no(-6);
        }
        int was = now.weights[wire];
        now.weights[wire] = v;
        past.clear();
        return was;
    }

    int sixth(int is) {
        if (!in(is, 0, 1)) {
            return no(-2);
        }
        int was = now.sixth ? 1 : 0;
        now.hang(is == 1);
        past.clear();
        return was;
    }

    private void remember() {
        past.addLast(now.copy());
        if (past.size() > 8) {
            past.removeFirst();
        }
    }

    int feeds(int wire) {
        if (wire < -1 || wire >= now.wires()) {
            return no(-1);
        }
        if (now.hour == 999) {
            return no(-6);
        }
        remember();
        return now.hour(wire).shown();
    }

    int cat(int wire) {
        if (!wireIs(wire)) {
            return no(-1);
        }
        remember();
        return now.cat(wire);
    }

    int hawk() {
        remember();
        return now.drive(true);
    }

    int rain() {
        remember();
        return now.drive(false);
    }

    int back() {
        if (past.isEmpty()) {
            return no(-3);
        }
        now = past.removeLast();
        return now.hour;
    }

    /** -4, -6, or 0. */
    private int range(int v, int least, int most) {
        return v < least ? -4 : v > most ? -6 : 0;
    }

    int behind(int n, int what) {
        if (range(n, 0, 20) != 0) {
            return no(range(n, 0, 20));
        }
        if (!in(what, 0, 1)) {
            return no(-2);
        }
        Clock c = now.copy().hours(n);
        return what == 0 ? c.shown() : c.wrong();
    }

    int where(int bird, int n) {
        if (!birdIs(bird)) {
            return no(-1);
        }
        if (range(n, 0, 20) != 0) {
            return no(range(n, 0, 20));
        }
        return now.copy().hours(n).birds.get(bird)[2];
    }

    int firstWrong() {
        for (int n = 0; n <= 20; n++) {
            if (now.copy().hours(n).wrong() != 0) {
                return n;
            }
        }
        return -9;
    }

    private static int all(Clock c, int n) {
        int sum = 0;
        for (int i = 1; i <= n; i++) {
            sum += c.copy().hours(i).wrong();
        }
        return sum;
    }

    int allWrong(int n) {
        if (range(n, 0, 20) != 0) {
            return no(range(n, 0, 20));
        }
        return all(now, n);
    }

    int feeding(int n, int i) {
        if (n < 1 || i < -1) {
            return no(-4);
        }
        if (n > 4) {
            return no(-6);
        }
        int[] best = null;
        int flies = 0;
        for (int[] w : ways(n)) {
            int f = Arrays.stream(w).sum();
            if (along(w).stream().allMatch(c -> c.wrong() == 0) && (best == null || f < flies)) {
                best = w;
                flies = f;
            }
        }
        if (i == -1) {
            return best == null ? -9 : flies;
        }
        return at(best, i);
    }

    /** The least argument of 0 .. n - 1 with the least value. */
    private static int argMin(int n, IntUnaryOperator f) {
        int best = 0;
        for (int i = 1; i < n; i++) {
            if (f.applyAsInt(i) < f.applyAsInt(best)) {
                best = i;
            }
        }
        return best;
    }

    int closest(int what) {
        if (!in(what, 0, 1)) {
            return no(-2);
        }
        int best = argMin(now.wires() + 1, f -> now.copy().hour(f - 1).wrong());
        return what == 0 ? best : now.copy().hour(best - 1).wrong();
    }

    int highest(int n) {
        if (range(n, 0, 4) != 0) {
            return no(range(n, 0, 4));
        }
        int most = 0;
        for (int[] w : ways(n)) {
            Clock last = n == 0 ? now : along(w).get(n - 1);
            most = Math.max(most, last.on(last.wires() - 1));
        }
        return most;
    }

    private boolean tells(Clock c) {
        for (int i = 0; i < row.size(); i++) {
            if (c.copy().hours(i).shown() != row.get(i)) {
                return false;
            }
        }
        return true;
    }

    int happened() {
        int bits = 0;
        for (int t = 0; t < 8; t++) {
            bits += tells(now.copy().thing(t)) ? 1 << t : 0;
        }
        return bits;
    }

    int tellsMost(int what) {
        if (!in(what, 0, 1)) {
            return no(-2);
        }
        IntUnaryOperator many = n -> {
            Set<Integer> s = new HashSet<>();
            for (int t = 0; t < 8; t++) {
                s.add(now.copy().thing(t).hours(n).shown());
            }
            return s.size();
        };
        int best = argMin(9, n -> -many.applyAsInt(n));
        return what == 0 ? best : many.applyAsInt(best);
    }

    private static List<Clock> moves(Clock c) {
        List<Clock> all = new ArrayList<>();
        for (int b = 0; b < c.birds.size(); b++) {
            for (int d = -1; d <= 1; d += 2) {
                int to = c.birds.get(b)[2] + d;
                if (c.room(to)) {
                    Clock m = c.copy();
                    m.birds.get(b)[2] = to;
                    all.add(m);
                }
            }
        }
        return all;
    }

    int mixed() {
        return (int) moves(now).stream().filter(c -> c.shown() != now.shown()).count();
    }

    int near(int h) {
        if (range(h, 0, 11) != 0) {
            return no(range(h, 0, 11));
        }
        Map<String, Clock> level = new HashMap<>();
        level.put("", now);
        for (int n = 0; n <= 3; n++) {
            Map<String, Clock> next = new HashMap<>();
            for (Clock c : level.values()) {
                if (c.shown() == h) {
                    return n;
                }
                for (Clock m : moves(c)) {
                    next.put(Arrays.toString(m.seats()), m);
                }
            }
            level = next;
        }
        return -9;
    }

    int read(int what) {
        if (!in(what, 0, 1)) {
            return no(-2);
        }
        int wires = now.wires();
        int ways = 0;
        int bits = 0;
        for (int code = 0; code < Math.pow(5, wires); code++) {
            int birds = 0;
            int sum = 0;
            int rest = code;
            for (int w = 0; w < wires; w++) {
                birds += rest % 5;
                sum += rest % 5 * now.weights[w];
                rest /= 5;
            }
            if (birds == now.birds.size()) {
                bits |= 1 << sum % 12;
                ways += sum % 12 == now.shown() ? 1 : 0;
            }
        }
        return what == 0 ? ways : bits;
    }

    int bestWeight(int n) {
        if (range(n, 1, 20) != 0) {
            return no(range(n, 1, 20));
        }
        int least = all(now, n);
        int best = -9;
        for (int w = 0; w < now.wires(); w++) {
            for (int v = 0; v < 12; v++) {
                Clock c = now.copy();
                c.weights[w] = v;
                int a = all(c, n);
                if (a < least) {
                    least = a;
                    best = 100 * w + v;
                }
            }
        }
        return best;
    }

    private Clock without(int bird) {
        Clock c = now.copy();
        c.birds.remove(bird);
        return c;
    }

    int bestWire(int bird, int what) {
        if (!birdIs(bird)) {
            return no(-1);
        }
        if (!in(what, 0, 1)) {
            return no(-2);
        }
        if (what == 1) {
            return without(bird).wrong();
        }
        return argMin(now.wires(), w -> {
            Clock c = now.copy();
            if (c.birds.get(bird)[2] != w && !c.room(w)) {
                return 99;
            }
            c.birds.get(bird)[2] = w;
            return c.wrong();
        });
    }

    int chord(int what) {
        if (!in(what, 0, 1)) {
            return no(-2);
        }
        if (what == 0) {
            return now.chord();
        }
        Set<Integer> s = new HashSet<>();
        for (int[] w : ways(1)) {
            s.add(along(w).get(0).chord());
        }
        return s.size();
    }

    int plays(int i) {
        if (i < -1) {
            return no(-4);
        }
        if (row.size() > 4 || row.stream().anyMatch(v -> v > 63)) {
            return no(-3);
        }
        int[] way = firstWay(row.size(), cs -> {
            for (int k = 0; k < cs.size(); k++) {
                if (cs.get(k).chord() != row.get(k)) {
                    return false;
                }
            }
            return true;
        });
        return i == -1 ? (way == null ? 0 : 1) : at(way, i);
    }

    int trains(int h, int p, int n, int what) {
        if (h < 0 || p < 1 || n < 0) {
            return no(-4);
        }
        if (h > 11 || p > 12 || n > 20) {
            return no(-6);
        }
        if (!in(what, 0, 1)) {
            return no(-2);
        }
        Set<Integer> go = new HashSet<>();
        for (int k = 0; h + k * p < 12; k++) {
            go.add(h + k * p);
        }
        int missed = 0;
        int idle = 0;
        for (int k = 0; k <= n; k++) {
            Clock c = now.copy().hours(k);
            boolean is = go.contains(c.hour % 12);
            boolean seems = go.contains(c.shown());
            missed += is && !seems ? 1 : 0;
            idle += seems && !is ? 1 : 0;
        }
        return what == 0 ? missed : idle;
    }

    int whoMoved(int what) {
        if (!in(what, 0, 2)) {
            return no(-2);
        }
        if (row.size() > 4 || row.stream().anyMatch(v -> v > 6)) {
            return no(-3);
        }
        int count = 0;
        int bits = 0;
        int fewest = -9;
        for (int[] w : ways(row.size())) {
            List<Integer> wrongs = along(w).stream().map(Clock::wrong).toList();
            if (wrongs.equals(row)) {
                count++;
                int flies = 0;
                for (int f : w) {
                    flies += f;
                    bits |= f == 0 ? 0 : 1 << (f - 1);
                }
                fewest = fewest == -9 ? flies : Math.min(fewest, flies);
            }
        }
        return what == 0 ? count : what == 1 ? bits : fewest;
    }

    private int meets(int kept, int fed) {
        return now.copy().hour(kept == fed ? -1 : fed).wrong();
    }

    int watch(int what) {
        if (!in(what, 0, 2)) {
            return no(-2);
        }
        IntUnaryOperator mostBy = kept -> {
            int most = 0;
            for (int fed = 0; fed < 5; fed++) {
                most = Math.max(most, meets(kept, fed));
            }
            return most;
        };
        int keeper = argMin(5, mostBy);
        if (what < 2) {
            return what == 0 ? mostBy.applyAsInt(keeper) : keeper;
        }
        int most = 0;
        for (int fed = 0; fed < 5; fed++) {
            int least = 6;
            for (int kept = 0; kept < 5; kept++) {
                least = Math.min(least, meets(kept, fed));
            }
            most = Math.max(most, least);
        }
        return most;
    }

    int winter(int what) {
        if (!in(what, 0, 1)) {
            return no(-2);
        }
        if (row.isEmpty()) {
            return no(-3);
        }
        List<Integer> t = row.stream().map(v -> v % 12).toList();
        for (int r = 0; r <= 20; r++) {
            List<Integer> next = new ArrayList<>();
            int k = t.size();
            for (int i = 0; i < k; i++) {
                int[] three = {t.get((i + k - 1) % k), t.get(i), t.get((i + 1) % k)};
                Arrays.sort(three);
                next.add(k < 3 ? t.get(i) : three[1]);
            }
            if (next.equals(t)) {
                return what == 0 ? r : new HashSet<>(t).size();
            }
            if (r < 20) {
                t = next;
            }
        }
        return what == 0 ? -9 : new HashSet<>(t).size();
    }

    int settled() {
        for (int n = 0; n <= 40; n++) {
            int[] a = now.copy().hours(n).seats();
            boolean still = true;
            for (int k = 1; k <= 3; k++) {
                still &= Arrays.equals(a, now.copy().hours(n + k).seats());
            }
            if (still) {
                return n;
            }
        }
        return -9;
    }

    int round() {
        for (int n = 3; n <= 60; n += 3) {
            if (Arrays.equals(now.seats(), now.copy().hours(n).seats())) {
                return n;
            }
        }
        return -9;
    }

    int always(int wire, int what) {
        if (!wireIs(wire)) {
            return no(-1);
        }
        if (!in(what, 0, 1)) {
            return no(-2);
        }
        int[] on = new int[21];
        Clock c = now.copy();
        for (int n = 0; n <= 20; n++) {
            on[n] = c.on(wire);
            c.hour(wire);
        }
        int best = argMin(21, n -> -on[n]);
        return what == 0 ? on[best] : best;
    }

    int catWorth() {
        int best = argMin(now.wires(), w -> now.copy().thing(3 + w).wrong());
        return now.copy().thing(3 + best).wrong() < now.wrong() ? best : -9;
    }

    int spread(int what) {
        if (!in(what, 0, 2)) {
            return no(-2);
        }
        List<Integer> start = new ArrayList<>();
        for (int w = 0; w < now.wires(); w++) {
            start.add(now.on(w));
        }
        if (what == 0) {
            return (int) start.stream().filter(v -> v > 0).count();
        }
        if (what == 1) {
            return start.stream().mapToInt(v -> v).max().orElse(0);
        }
        Set<List<Integer>> seen = new HashSet<>(Set.of(start));
        List<List<Integer>> level = List.of(start);
        for (int n = 0; ; n++) {
            List<List<Integer>> next = new ArrayList<>();
            for (List<Integer> s : level) {
                int most = s.stream().mapToInt(v -> v).max().orElse(0);
                int least = s.stream().mapToInt(v -> v).min().orElse(0);
                if (most - least <= 1) {
                    return n;
                }
                for (int w = 0; w < s.size(); w++) {
                    for (int to = w - 1; to <= w + 1; to += 2) {
                        if (to >= 0 && to < s.size() && s.get(w) > 0) {
                            List<Integer> m = new ArrayList<>(s);
                            m.set(w, s.get(w) - 1);
                            m.set(to, s.get(to) + 1);
                            if (seen.add(m)) {
                                next.add(m);
                            }
                        }
                    }
                }
            }
            level = next;
        }
    }

    int later(int n, int what) {
        if (range(n, 0, 20) != 0) {
            return no(range(n, 0, 20));
        }
        if (!in(what, 0, 1)) {
            return no(-2);
        }
        Clock c = now.copy().hours(n);
        int late = (c.hour % 12 - c.shown() + 12) % 12;
        return what == 0 ? late : late == 0 ? 0 : 12 - late;
    }

    int stayed(int n) {
        if (range(n, 0, 20) != 0) {
            return no(range(n, 0, 20));
        }
        int bits = 0;
        for (int b = 0; b < now.birds.size(); b++) {
            boolean went = false;
            for (int k = 0; k < n; k++) {
                went |= now.copy().hours(k).seats()[b] != now.copy().hours(k + 1).seats()[b];
            }
            bits |= went ? 0 : 1 << b;
        }
        return bits;
    }

    int lured(int bird, int wire, int i) {
        if (!birdIs(bird) || !wireIs(wire)) {
            return no(-1);
        }
        if (i < -1) {
            return no(-4);
        }
        for (int n = 0; n <= 4; n++) {
            int hours = n;
            int[] way = firstWay(n, cs -> (hours == 0 ? now : cs.get(hours - 1)).seats()[bird] == wire);
            if (way != null) {
                return i == -1 ? n : at(way, i);
            }
        }
        return -9;
    }

    int right(int n, int what) {
        if (range(n, 0, 20) != 0) {
            return no(range(n, 0, 20));
        }
        if (!in(what, 0, 1)) {
            return no(-2);
        }
        StringBuilder marks = new StringBuilder();
        for (int k = 1; k <= n; k++) {
            marks.append(now.copy().hours(k).wrong() == 0 ? 'x' : ' ');
        }
        int all = marks.toString().replace(" ", "").length();
        int most = 0;
        for (String run : marks.toString().split(" ")) {
            most = Math.max(most, run.length());
        }
        return what == 0 ? all : most;
    }

    int worstBird() {
        if (now.birds.isEmpty()) {
            return -9;
        }
        int best = argMin(now.birds.size(), b -> without(b).wrong());
        return without(best).wrong() < now.wrong() ? best : -9;
    }

    int gather(int k) {
        if (range(k, 1, 6) != 0) {
            return no(range(k, 1, 6));
        }
        for (int n = 0; n <= 4; n++) {
            int hours = n;
            if (firstWay(n, cs -> Integer.bitCount((hours == 0 ? now : cs.get(hours - 1)).chord()) <= k) != null) {
                return n;
            }
        }
        return -9;
    }

    int row(int v) {
        if (v < 0) {
            return no(-4);
        }
        if (v > 99 || row.size() == 12) {
            return no(-6);
        }
        row.add(v);
        return row.size();
    }

    int judge() {
        int first = -9;
        for (int i = row.size() - 1; i >= 0; i--) {
            if (now.copy().hours(i).shown() != row.get(i)) {
                first = i;
            }
        }
        row.clear();
        return first;
    }

    int clear() {
        int had = row.size();
        row.clear();
        return had;
    }

    int lots(int n, int z, int what) {
        if (range(n, 1, 20) != 0) {
            return no(range(n, 1, 20));
        }
        if (!in(what, 0, 1)) {
            return no(-2);
        }
        int sum = 0;
        int nil = 0;
        Clock c = now.copy();
        for (int year = 0; year < n; year++) {
            for (int draw = 0; draw < 20; draw++) {
                z = (int) (z * 1103515245L + 12345L);
                long plain = z < 0 ? z + 2147483648L : z;
                c.thing((int) (plain / 65536 % 8)).hour(-1);
                sum += c.wrong();
                nil += c.wrong() == 0 ? 1 : 0;
            }
        }
        return what == 0 ? sum : nil;
    }

    int image() {
        image = now.copy();
        return now.hour;
    }

    int restore() {
        if (image == null) {
            return no(-3);
        }
        now = image.copy();
        past.clear();
        return now.hour;
    }

    int count(int what) {
        int[] known = {now.birds.size(), now.wires(), now.hour, now.shown(), now.wrong(), letters.length(), row.size(),
            past.size()};
        if (in(what, 0, 7)) {
            return known[what];
        }
        return in(what, 11, 16) ? refusals.getOrDefault(10 - what, 0) : -9;
    }
}
