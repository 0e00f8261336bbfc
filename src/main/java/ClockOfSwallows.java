import java.util.Arrays;

/** A clock of swallows: the HOUR is shown by which birds sit on which wires. */
public final class ClockOfSwallows {
    private static final int NOBODY = -1;
    private static final int OTHER = -2;
    private static final int STATE = -3;
    private static final int BELOW = -4;
    private static final int ABOVE = -6;
    private static final int NONE = -9;
    private static final int REFUSALS = 6;
    private static final int LACKING_LETTER = -1000;
    private static final int WRONG_STATEMENT = -2000;

    private static final int DIAL = 12;
    private static final int LAST_HOUR = 999;
    private static final int MOST_BIRDS = 8;
    private static final int FIRST_WIRES = 5;
    private static final int MOST_WIRES = 6;
    private static final int SIXTH = 5;
    private static final int WIRE_ROOM = 4;
    private static final int MOST_FIGURE = 9;
    private static final int MOST_WEIGHT = 11;
    private static final int MOST_LETTERS = 96;
    private static final int MOST_LETTER = 255;
    private static final int MOST_NUMBERS = 12;
    private static final int MOST_NUMBER = 99;
    private static final int MOST_BACK = 8;
    private static final int THINGS = 8;
    private static final int MOST_FED = 4;
    private static final int FAR = 20;
    private static final int NO_FLIES = -1;
    private static final int ALL_CHORDS = 63;
    private static final int MOST_WRONG = 6;
    /** Above whatever is counted or measured here. */
    private static final int MANY = 1000000;
    private static final int YEAR = 20;
    private static final int WITHOUT_SIGN = 0x7fffffff;

    private static final int BIRD = 0;
    private static final int YOUNG = 1;
    private static final int OLD = 2;
    private static final int SPARROW = 3;
    private static final int FIRST = 4;
    private static final int KEEPER = 5;

    private final Flock now = new Flock();
    private final Flock imaged = new Flock();
    private final Flock draft = new Flock();
    private final Flock mind = new Flock();
    private final Flock[] steps = new Flock[MOST_FED + 1];
    private final Past past = new Past();
    private final Text text = new Text();
    private final Row row = new Row();
    private final int[] refused = new int[REFUSALS + 1];
    private final int[] tally = new int[DIAL];
    private final int[] totals = new int[MOST_WIRES * DIAL];
    private final FeedingQuest feedingQuest = new FeedingQuest();
    private final HighestQuest highestQuest = new HighestQuest();
    private final ChordQuest chordQuest = new ChordQuest();
    private final MovedQuest movedQuest = new MovedQuest();
    private final LureQuest lureQuest = new LureQuest();
    private final GatherQuest gatherQuest = new GatherQuest();
    private boolean hasImage;

    public ClockOfSwallows() {
        for (int i = 0; i < steps.length; i++) {
            steps[i] = new Flock();
        }
    }

    // ---- refusals ----

    private int refuse(int number) {
        int kind = -number;
        if (kind >= 1 && kind <= REFUSALS) {
            refused[kind]++;
        }
        return number;
    }

    private static int either(int first, int second) {
        return first != 0 ? first : second;
    }

    private static int outside(int n, int least, int most) {
        if (n < least) {
            return BELOW;
        }
        return n > most ? ABOVE : 0;
    }

    private static int under(int n, int least) {
        return n < least ? BELOW : 0;
    }

    private static int unknown(int what, int most) {
        return what < 0 || what > most ? OTHER : 0;
    }

    private int noWire(int wire) {
        return now.isWire(wire) ? 0 : NOBODY;
    }

    private int noBird(int bird) {
        return now.isBird(bird) ? 0 : NOBODY;
    }

    /** A ROW that tells what is behind HOURS with any FLIES can't be longer than ways are tried. */
    private int unfitRow(int most) {
        return row.length <= MOST_FED && row.greatest() <= most ? 0 : STATE;
    }

    // ---- I: letters and towns ----

    public int feed(int letter) {
        int no = outside(letter, 0, MOST_LETTER);
        if (no == 0 && text.length >= MOST_LETTERS) {
            no = ABOVE;
        }
        if (no != 0) {
            return refuse(no);
        }
        return text.put(letter);
    }

    public int town() {
        int odd = text.oddPlace();
        int answer = odd >= 0 ? LACKING_LETTER - odd : readTown();
        text.length = 0;
        return answer;
    }

    private int readTown() {
        draft.become(now);
        int statements = 0;
        int place = 0;
        while (place < text.length) {
            if (!comesTrue(place)) {
                return WRONG_STATEMENT - place;
            }
            statements++;
            place += Math.max(0, Text.digitsBehind(text.letterAt(place))) + 2;
        }
        now.become(draft);
        past.forget();
        return statements;
    }

    private boolean comesTrue(int place) {
        int first = text.digitAt(place + 1);
        switch (text.letterAt(place)) {
            case 'b':
                return birdComes(first, text.digitAt(place + 2), text.digitAt(place + 3));
            case 'w':
                return weightComes(first, 10 * text.digitAt(place + 2) + text.digitAt(place + 3));
            case 'f':
                return draft.isWire(first) && hoursCome(1, first);
            case 'n':
                return hoursCome(first, NO_FLIES);
            case 'c':
                return catComes(first);
            case 'h':
                draft.driveUp();
                return true;
            case 'r':
                draft.driveDown();
                return true;
            default:
                draft.hang(draft.wires != MOST_WIRES);
                return true;
        }
    }

    private boolean birdComes(int kind, int figure, int wire) {
        if (kind < BIRD || kind > KEEPER || draft.birds >= MOST_BIRDS || !draft.hasRoom(wire)) {
            return false;
        }
        draft.add(kind, figure, wire);
        return true;
    }

    private boolean weightComes(int wire, int v) {
        if (!draft.isWire(wire) || v < 0 || v > MOST_WEIGHT) {
            return false;
        }
        draft.weights[wire] = v;
        return true;
    }

    private boolean hoursCome(int n, int flies) {
        if (draft.hour + n > LAST_HOUR) {
            return false;
        }
        for (int i = 0; i < n; i++) {
            draft.pass(flies);
        }
        return true;
    }

    private boolean catComes(int wire) {
        if (!draft.isWire(wire)) {
            return false;
        }
        draft.scare(wire);
        return true;
    }

    // ---- I: birds, wires, what happens ----

    public int bird(int bird, int what) {
        int no = either(noBird(bird), unknown(what, 2));
        if (no != 0) {
            return refuse(no);
        }
        if (what == 0) {
            return now.kinds[bird];
        }
        return what == 1 ? now.figures[bird] : now.places[bird];
    }

    public int comes(int kind, int figure, int wire) {
        int no = either(noWire(wire), either(unknown(kind, KEEPER), outside(figure, 0, MOST_FIGURE)));
        if (no == 0 && now.birds >= MOST_BIRDS) {
            no = ABOVE;
        }
        if (no == 0 && !now.hasRoom(wire)) {
            no = STATE;
        }
        if (no != 0) {
            return refuse(no);
        }
        past.forget();
        return now.add(kind, figure, wire);
    }

    public int wire(int wire, int what) {
        int no = either(noWire(wire), unknown(what, 1));
        if (no != 0) {
            return refuse(no);
        }
        return what == 0 ? now.weights[wire] : now.seated[wire];
    }

    public int weight(int wire, int v) {
        int no = either(noWire(wire), outside(v, 0, MOST_WEIGHT));
        if (no != 0) {
            return refuse(no);
        }
        int was = now.weights[wire];
        now.weights[wire] = v;
        past.forget();
        return was;
    }

    public int sixth(int is) {
        int no = unknown(is, 1);
        if (no != 0) {
            return refuse(no);
        }
        int was = now.wires == MOST_WIRES ? 1 : 0;
        now.hang(is == 1);
        past.forget();
        return was;
    }

    public int feeds(int wire) {
        int no = wire == NO_FLIES ? 0 : noWire(wire);
        if (no == 0 && now.hour >= LAST_HOUR) {
            no = ABOVE;
        }
        if (no != 0) {
            return refuse(no);
        }
        past.keep(now);
        now.pass(wire);
        return now.shows();
    }

    public int cat(int wire) {
        int no = noWire(wire);
        if (no != 0) {
            return refuse(no);
        }
        past.keep(now);
        return now.scare(wire);
    }

    public int hawk() {
        past.keep(now);
        return now.driveUp();
    }

    public int rain() {
        past.keep(now);
        return now.driveDown();
    }

    public int back() {
        if (past.kept == 0) {
            return refuse(STATE);
        }
        past.takeBack(now);
        return now.hour;
    }

    // ---- II: in mind, without FLIES ----

    private Flock think() {
        mind.become(now);
        return mind;
    }

    private Flock thinkBehind(int n) {
        Flock m = think();
        for (int i = 0; i < n; i++) {
            m.pass(NO_FLIES);
        }
        return m;
    }

    public int behind(int n, int what) {
        int no = either(outside(n, 0, FAR), unknown(what, 1));
        if (no != 0) {
            return refuse(no);
        }
        Flock m = thinkBehind(n);
        return what == 0 ? m.shows() : m.errs();
    }

    public int where(int bird, int n) {
        int no = either(noBird(bird), outside(n, 0, FAR));
        if (no != 0) {
            return refuse(no);
        }
        return thinkBehind(n).places[bird];
    }

    public int firstWrong() {
        Flock m = think();
        for (int n = 0; n <= FAR; n++) {
            if (m.errs() != 0) {
                return n;
            }
            m.pass(NO_FLIES);
        }
        return NONE;
    }

    public int allWrong(int n) {
        int no = outside(n, 0, FAR);
        if (no != 0) {
            return refuse(no);
        }
        Flock m = think();
        int all = 0;
        for (int i = 0; i < n; i++) {
            m.pass(NO_FLIES);
            all += m.errs();
        }
        return all;
    }

    public int right(int n, int what) {
        int no = either(outside(n, 0, FAR), unknown(what, 1));
        if (no != 0) {
            return refuse(no);
        }
        Flock m = think();
        int all = 0;
        int run = 0;
        int longest = 0;
        for (int i = 0; i < n; i++) {
            m.pass(NO_FLIES);
            boolean isRight = m.errs() == 0;
            run = isRight ? run + 1 : 0;
            all += isRight ? 1 : 0;
            longest = Math.max(longest, run);
        }
        return what == 0 ? all : longest;
    }

    public int later(int n, int what) {
        int no = either(outside(n, 0, FAR), unknown(what, 1));
        if (no != 0) {
            return refuse(no);
        }
        Flock m = thinkBehind(n);
        int late = Math.floorMod(m.hour - m.shows(), DIAL);
        return what == 0 ? late : (DIAL - late) % DIAL;
    }

    public int stayed(int n) {
        int no = outside(n, 0, FAR);
        if (no != 0) {
            return refuse(no);
        }
        Flock m = think();
        int goers = 0;
        for (int i = 0; i < n; i++) {
            goers |= m.pass(NO_FLIES);
        }
        return ((1 << m.birds) - 1) & ~goers;
    }

    public int settled() {
        Flock m = think();
        int quiet = 0;
        for (int hours = 1; hours <= 2 * FAR + 3; hours++) {
            quiet = m.pass(NO_FLIES) == 0 ? quiet + 1 : 0;
            if (quiet == 3) {
                return hours - 3;
            }
        }
        return NONE;
    }

    public int round() {
        Flock m = think();
        for (int n = 3; n <= 3 * FAR; n += 3) {
            m.pass(NO_FLIES);
            m.pass(NO_FLIES);
            m.pass(NO_FLIES);
            if (m.sitsAs(now)) {
                return n;
            }
        }
        return NONE;
    }

    public int trains(int h, int p, int n, int what) {
        int no = 0;
        if (h < 0 || p < 1 || n < 0) {
            no = BELOW;
        } else if (h >= DIAL || p > DIAL || n > FAR) {
            no = ABOVE;
        }
        no = either(no, unknown(what, 1));
        if (no != 0) {
            return refuse(no);
        }
        int going = 0;
        for (int hour = h; hour < DIAL; hour += p) {
            going |= 1 << hour;
        }
        return trainsLooked(going, n, what == 0);
    }

    private int trainsLooked(int going, int n, boolean missed) {
        Flock m = think();
        int all = 0;
        for (int i = 0; i <= n; i++) {
            boolean goes = (going >> (m.hour % DIAL) & 1) == 1;
            boolean seems = (going >> m.shows() & 1) == 1;
            if (goes != seems && goes == missed) {
                all++;
            }
            m.pass(NO_FLIES);
        }
        return all;
    }

    // ---- II: in mind, things that happen ----

    public int happened() {
        int bits = 0;
        for (int thing = 0; thing < THINGS; thing++) {
            Flock m = think();
            m.undergo(thing);
            if (firstUnlike(m) == NONE) {
                bits |= 1 << thing;
            }
        }
        return bits;
    }

    /** The first place at which the ROW is not what is SHOWN from there on; it wears out the flock. */
    private int firstUnlike(Flock m) {
        for (int i = 0; i < row.length; i++) {
            if (m.shows() != row.numbers[i]) {
                return i;
            }
            m.pass(NO_FLIES);
        }
        return NONE;
    }

    public int tellsMost(int what) {
        int no = unknown(what, 1);
        if (no != 0) {
            return refuse(no);
        }
        int most = 0;
        int when = 0;
        Arrays.fill(tally, 0);
        for (int thing = 0; thing < THINGS; thing++) {
            noteShown(thing);
        }
        for (int n = 0; n <= 8; n++) {
            int unlike = Integer.bitCount(tally[n]);
            if (unlike > most) {
                most = unlike;
                when = n;
            }
        }
        return what == 0 ? when : most;
    }

    /** Adds to the tally, as bits, what is SHOWN behind 0 .. 8 HOURS by a thing. */
    private void noteShown(int thing) {
        Flock m = think();
        m.undergo(thing);
        for (int n = 0; n <= 8; n++) {
            tally[n] |= 1 << m.shows();
            m.pass(NO_FLIES);
        }
    }

    public int catWorth() {
        int least = now.errs();
        int best = NONE;
        for (int wire = 0; wire < now.wires; wire++) {
            Flock m = think();
            m.scare(wire);
            if (m.errs() < least) {
                least = m.errs();
                best = wire;
            }
        }
        return best;
    }

    public int lots(int n, int z, int what) {
        int no = either(outside(n, 1, FAR), unknown(what, 1));
        if (no != 0) {
            return refuse(no);
        }
        Flock m = think();
        int seed = z;
        int all = 0;
        int rightOnes = 0;
        for (int i = 0; i < YEAR * n; i++) {
            seed = seed * 1103515245 + 12345;
            m.undergo(((seed & WITHOUT_SIGN) / 65536) % THINGS);
            m.pass(NO_FLIES);
            all += m.errs();
            if (m.errs() == 0) {
                rightOnes++;
            }
        }
        return what == 0 ? all : rightOnes;
    }

    // ---- II: in mind, one HOUR with FLIES ----

    private Flock thinkFed(int flies) {
        Flock m = think();
        m.pass(flies);
        return m;
    }

    public int closest(int what) {
        int no = unknown(what, 1);
        if (no != 0) {
            return refuse(no);
        }
        int least = MANY;
        int best = 0;
        for (int flies = NO_FLIES; flies < now.wires; flies++) {
            int wrong = thinkFed(flies).errs();
            if (wrong < least) {
                least = wrong;
                best = flies + 1;
            }
        }
        return what == 0 ? best : least;
    }

    public int chord(int what) {
        int no = unknown(what, 1);
        if (no != 0) {
            return refuse(no);
        }
        return what == 0 ? now.satOn() : nextChords();
    }

    private int nextChords() {
        long chords = 0;
        for (int flies = NO_FLIES; flies < now.wires; flies++) {
            chords |= 1L << thinkFed(flies).satOn();
        }
        return Long.bitCount(chords);
    }

    public int watch(int what) {
        int no = unknown(what, 2);
        if (no != 0) {
            return refuse(no);
        }
        int unfed = thinkFed(NO_FLIES).errs();
        for (int wire = 0; wire < FIRST_WIRES; wire++) {
            tally[wire] = thinkFed(wire).errs();
        }
        if (what == 2) {
            return rivalSure(unfed);
        }
        int least = MANY;
        int best = 0;
        for (int kept = 0; kept < FIRST_WIRES; kept++) {
            int most = mostWrong(kept, unfed);
            if (most < least) {
                least = most;
                best = kept;
            }
        }
        return what == 0 ? least : best;
    }

    private int mostWrong(int kept, int unfed) {
        int most = unfed;
        for (int fed = 0; fed < FIRST_WIRES; fed++) {
            if (fed != kept) {
                most = Math.max(most, tally[fed]);
            }
        }
        return most;
    }

    /** Whichever WIRE he feeds, the other may keep the FLIES from just that one. */
    private int rivalSure(int unfed) {
        int most = 0;
        for (int fed = 0; fed < FIRST_WIRES; fed++) {
            most = Math.max(most, Math.min(unfed, tally[fed]));
        }
        return most;
    }

    public int always(int wire, int what) {
        int no = either(noWire(wire), unknown(what, 1));
        if (no != 0) {
            return refuse(no);
        }
        Flock m = think();
        int most = m.seated[wire];
        int when = 0;
        for (int n = 1; n <= FAR; n++) {
            m.pass(wire);
            if (m.seated[wire] > most) {
                most = m.seated[wire];
                when = n;
            }
        }
        return what == 0 ? most : when;
    }

    // ---- II: in mind, ways of FLIES ----

    /** Tries all ways that begin as the first HOURS of the quest's way, none first, then WIRES rising. */
    private static void seek(Quest quest, Flock[] steps, int hours) {
        if (hours > MOST_FED || !quest.opens(steps[hours], hours) || hours == MOST_FED) {
            return;
        }
        Flock here = steps[hours];
        Flock next = steps[hours + 1];
        for (int flies = NO_FLIES; flies < here.wires; flies++) {
            quest.way[hours] = flies + 1;
            next.sitAs(here);
            next.pass(flies);
            seek(quest, steps, hours + 1);
        }
    }

    private void seekFromNow(Quest quest) {
        for (int i = 0; i < steps.length; i++) {
            steps[i].become(now);
        }
        seek(quest, steps, 0);
    }

    public int feeding(int n, int i) {
        int no = either(under(i, -1), outside(n, 1, MOST_FED));
        if (no != 0) {
            return refuse(no);
        }
        feedingQuest.begin(n);
        seekFromNow(feedingQuest);
        return i == -1 ? feedingQuest.bestOrNone() : feedingQuest.fliesAt(i);
    }

    public int highest(int n) {
        int no = outside(n, 0, MOST_FED);
        if (no != 0) {
            return refuse(no);
        }
        highestQuest.begin(n);
        seekFromNow(highestQuest);
        return highestQuest.most;
    }

    public int plays(int i) {
        int no = either(under(i, -1), unfitRow(ALL_CHORDS));
        if (no != 0) {
            return refuse(no);
        }
        chordQuest.begin(row.length);
        chordQuest.hear(row);
        seekFromNow(chordQuest);
        if (i == -1) {
            return chordQuest.best == MANY ? 0 : 1;
        }
        return chordQuest.fliesAt(i);
    }

    public int whoMoved(int what) {
        int no = either(unknown(what, 2), unfitRow(MOST_WRONG));
        if (no != 0) {
            return refuse(no);
        }
        movedQuest.begin(row.length);
        movedQuest.hear(row);
        seekFromNow(movedQuest);
        if (what == 0) {
            return movedQuest.ways;
        }
        return what == 1 ? movedQuest.fed : movedQuest.bestOrNone();
    }

    public int lured(int bird, int wire, int i) {
        int no = either(noBird(bird), either(noWire(wire), under(i, -1)));
        if (no != 0) {
            return refuse(no);
        }
        lureQuest.begin(MOST_FED);
        lureQuest.bird = bird;
        lureQuest.wire = wire;
        seekFromNow(lureQuest);
        return i == -1 ? lureQuest.bestOrNone() : lureQuest.fliesAt(i);
    }

    public int gather(int k) {
        int no = outside(k, 1, MOST_WIRES);
        if (no != 0) {
            return refuse(no);
        }
        gatherQuest.begin(MOST_FED);
        gatherQuest.wires = k;
        seekFromNow(gatherQuest);
        return gatherQuest.bestOrNone();
    }

    // ---- II: in mind, other seats and weights ----

    public int mixed() {
        int moves = 0;
        for (int wire = 0; wire < now.wires; wire++) {
            for (int to = wire - 1; to <= wire + 1; to += 2) {
                if (now.hasRoom(to) && now.weights[to] != now.weights[wire]) {
                    moves += now.seated[wire];
                }
            }
        }
        return moves;
    }

    public int near(int h) {
        int no = outside(h, 0, DIAL - 1);
        if (no != 0) {
            return refuse(no);
        }
        int moves = movesTo(think(), h, 3);
        return moves < MANY ? moves : NONE;
    }

    /** Only how many sit on each WIRE matters here, so the places of single birds are left alone. */
    private static int movesTo(Flock m, int h, int left) {
        if (m.shows() == h) {
            return 0;
        }
        if (left <= 0) {
            return MANY;
        }
        int fewest = MANY;
        for (int wire = 0; wire < m.wires; wire++) {
            for (int to = wire - 1; to <= wire + 1; to += 2) {
                if (m.seated[wire] > 0 && m.hasRoom(to)) {
                    m.shift(wire, to);
                    fewest = Math.min(fewest, 1 + movesTo(m, h, left - 1));
                    m.shift(to, wire);
                }
            }
        }
        return Math.min(fewest, MANY);
    }

    public int read(int what) {
        int no = unknown(what, 1);
        if (no != 0) {
            return refuse(no);
        }
        Arrays.fill(tally, 0);
        tallySeats(now, 0, now.birds, 0, tally);
        if (what == 0) {
            return tally[now.shows()];
        }
        int bits = 0;
        for (int hour = 0; hour < DIAL; hour++) {
            if (tally[hour] > 0) {
                bits |= 1 << hour;
            }
        }
        return bits;
    }

    /** Counts by what they show the ways in which those who are left can sit from a WIRE on. */
    private static void tallySeats(Flock f, int wire, int left, int weight, int[] tally) {
        if (wire >= f.wires) {
            if (left == 0) {
                tally[Math.floorMod(weight, DIAL)]++;
            }
            return;
        }
        for (int on = 0; on <= Math.min(left, WIRE_ROOM); on++) {
            tallySeats(f, wire + 1, left - on, weight + on * f.weights[wire], tally);
        }
    }

    public int bestWeight(int n) {
        int no = outside(n, 1, FAR);
        if (no != 0) {
            return refuse(no);
        }
        Arrays.fill(totals, 0);
        int least = 0;
        Flock m = think();
        for (int i = 0; i < n; i++) {
            m.pass(NO_FLIES);
            least += m.errs();
            addErrsByWeight(m);
        }
        int best = NONE;
        for (int i = 0; i < m.wires * DIAL; i++) {
            if (totals[i] < least) {
                least = totals[i];
                best = 100 * (i / DIAL) + i % DIAL;
            }
        }
        return best;
    }

    /** Nobody goes by WEIGHTS, so one way through the HOURS serves for all of them. */
    private void addErrsByWeight(Flock m) {
        int shown = m.shows();
        for (int wire = 0; wire < m.wires; wire++) {
            for (int v = 0; v < DIAL; v++) {
                int other = shown + (v - m.weights[wire]) * m.seated[wire];
                totals[wire * DIAL + v] += apart(other, m.hour);
            }
        }
    }

    public int bestWire(int bird, int what) {
        int no = either(noBird(bird), unknown(what, 1));
        if (no != 0) {
            return refuse(no);
        }
        if (what == 1) {
            return errsWithout(bird);
        }
        int own = now.places[bird];
        int least = MANY;
        int best = own;
        for (int wire = 0; wire < now.wires; wire++) {
            if (wire == own || now.hasRoom(wire)) {
                int wrong = apart(now.shows() - now.weights[own] + now.weights[wire], now.hour);
                if (wrong < least) {
                    least = wrong;
                    best = wire;
                }
            }
        }
        return best;
    }

    private int errsWithout(int bird) {
        return apart(now.shows() - now.weights[now.places[bird]], now.hour);
    }

    public int worstBird() {
        int least = now.errs();
        int worst = NONE;
        for (int bird = 0; bird < now.birds; bird++) {
            int wrong = errsWithout(bird);
            if (wrong < least) {
                least = wrong;
                worst = bird;
            }
        }
        return worst;
    }

    public int spread(int what) {
        int no = unknown(what, 2);
        if (no != 0) {
            return refuse(no);
        }
        if (what == 0) {
            return Integer.bitCount(now.satOn());
        }
        if (what == 2) {
            return movesToEven();
        }
        int most = 0;
        for (int wire = 0; wire < now.wires; wire++) {
            most = Math.max(most, now.seated[wire]);
        }
        return most;
    }

    /** Even means that as many WIRES as birds are left over have one more: any of them may. */
    private int movesToEven() {
        int wires = Math.max(1, now.wires);
        int fewest = MANY;
        for (int fuller = 0; fuller < 1 << wires; fuller++) {
            if (Integer.bitCount(fuller) == now.birds % wires) {
                fewest = Math.min(fewest, movesToFill(now.birds / wires, fuller));
            }
        }
        return fewest;
    }

    private int movesToFill(int each, int fuller) {
        int moves = 0;
        int carried = 0;
        for (int wire = 0; wire < now.wires; wire++) {
            carried += now.seated[wire] - each - (fuller >> wire & 1);
            moves += Math.abs(carried);
        }
        return moves;
    }

    // ---- the ROW ----

    public int row(int v) {
        int no = outside(v, 0, MOST_NUMBER);
        if (no == 0 && row.length >= MOST_NUMBERS) {
            no = ABOVE;
        }
        if (no != 0) {
            return refuse(no);
        }
        return row.put(v);
    }

    public int judge() {
        int first = firstUnlike(think());
        row.length = 0;
        return first;
    }

    public int clear() {
        int had = row.length;
        row.length = 0;
        return had;
    }

    public int winter(int what) {
        int no = either(unknown(what, 1), row.length == 0 ? STATE : 0);
        if (no != 0) {
            return refuse(no);
        }
        int rounds = row.agree();
        return what == 0 ? rounds : row.unlikeThoughts();
    }

    // ---- the image, counts ----

    public int image() {
        imaged.become(now);
        hasImage = true;
        return now.hour;
    }

    public int restore() {
        if (!hasImage) {
            return refuse(STATE);
        }
        now.become(imaged);
        past.forget();
        return now.hour;
    }

    public int count(int what) {
        if (what > 10 && what <= 10 + REFUSALS) {
            return refused[what - 10];
        }
        switch (what) {
            case 0:
                return now.birds;
            case 1:
                return now.wires;
            case 2:
                return now.hour;
            case 3:
                return now.shows();
            case 4:
                return now.errs();
            case 5:
                return text.length;
            case 6:
                return row.length;
            case 7:
                return past.kept;
            default:
                return NONE;
        }
    }

    /** How far two HOURS are from one another round the clock. */
    private static int apart(int shown, int hour) {
        int ahead = Math.floorMod(shown - hour, DIAL);
        return Math.min(ahead, DIAL - ahead);
    }

    /** All that there is of part I but letters: the WIRES, the BIRDS on them, the HOUR. */
    private static final class Flock {
        private final int[] kinds = new int[MOST_BIRDS];
        private final int[] figures = new int[MOST_BIRDS];
        private final int[] places = new int[MOST_BIRDS];
        private final int[] seated = new int[MOST_WIRES];
        private final int[] weights = new int[MOST_WIRES];
        private int birds;
        private int wires = FIRST_WIRES;
        private int hour;

        Flock() {
            for (int wire = 0; wire < MOST_WIRES; wire++) {
                weights[wire] = wire;
            }
        }

        void become(Flock other) {
            System.arraycopy(other.kinds, 0, kinds, 0, MOST_BIRDS);
            System.arraycopy(other.figures, 0, figures, 0, MOST_BIRDS);
            System.arraycopy(other.weights, 0, weights, 0, MOST_WIRES);
            birds = other.birds;
            wires = other.wires;
            sitAs(other);
        }

        /** For a flock of the same birds and WIRES: all else is left as it is. */
        void sitAs(Flock other) {
            System.arraycopy(other.places, 0, places, 0, MOST_BIRDS);
            System.arraycopy(other.seated, 0, seated, 0, MOST_WIRES);
            hour = other.hour;
        }

        boolean sitsAs(Flock other) {
            for (int b = 0; b < birds; b++) {
                if (places[b] != other.places[b]) {
                    return false;
                }
            }
            return true;
        }

        boolean isWire(int wire) {
            return wire >= 0 && wire < wires;
        }

        boolean isBird(int bird) {
            return bird >= 0 && bird < birds;
        }

        boolean hasRoom(int wire) {
            return wire >= 0 && wire < wires && seated[wire] < WIRE_ROOM;
        }

        int add(int kind, int figure, int wire) {
            int number = birds;
            if (number < MOST_BIRDS && hasRoom(wire)) {
                kinds[number] = kind;
                figures[number] = figure;
                places[number] = wire;
                seated[wire]++;
                birds++;
            }
            return number;
        }

        void shift(int wire, int to) {
            seated[wire]--;
            seated[to]++;
        }

        private void go(int bird, int to) {
            shift(places[bird], to);
            places[bird] = to;
        }

        void hang(boolean hung) {
            if (!hung && wires == MOST_WIRES) {
                scare(SIXTH);
            }
            wires = hung ? MOST_WIRES : FIRST_WIRES;
        }

        int shows() {
            int all = 0;
            for (int wire = 0; wire < wires; wire++) {
                all += weights[wire] * seated[wire];
            }
            return all % DIAL;
        }

        int errs() {
            return apart(shows(), hour);
        }

        int satOn() {
            int bits = 0;
            for (int wire = 0; wire < wires; wire++) {
                if (seated[wire] > 0) {
                    bits |= 1 << wire;
                }
            }
            return bits;
        }

        /** An HOUR with FLIES on a WIRE or NO_FLIES: those who went (bits). */
        int pass(int flies) {
            int goers = 0;
            for (int b = 0; b < birds; b++) {
                int to = wanted(b, flies);
                if (to != places[b] && hasRoom(to)) {
                    go(b, to);
                    goers |= 1 << b;
                }
            }
            hour++;
            return goers;
        }

        private int wanted(int bird, int flies) {
            int own = places[bird];
            int to = nearer(own, flies);
            switch (kinds[bird]) {
                case YOUNG:
                    return wantedYoung(bird, to);
                case OLD:
                    return wantedOld(own, flies, to);
                case SPARROW:
                    return reaches(bird, flies) ? flies : wantedYoung(bird, to);
                case FIRST:
                    return seated[own] == 1 ? to : wantedOld(own, flies, to);
                case KEEPER:
                    return Math.min(wantedOld(own, flies, to), figures[bird] / 3);
                default:
                    return to;
            }
        }

        private static int nearer(int own, int flies) {
            if (flies == NO_FLIES || flies == own) {
                return own;
            }
            return flies > own ? own + 1 : own - 1;
        }

        private int wantedYoung(int bird, int to) {
            boolean fidgets = (hour + figures[bird]) % 3 == 0;
            return fidgets ? Math.max(0, to - 1) : to;
        }

        private static int wantedOld(int own, int flies, int to) {
            boolean beside = flies != NO_FLIES && Math.abs(flies - own) == 1;
            return beside ? own : to;
        }

        private boolean reaches(int bird, int flies) {
            return flies != NO_FLIES && Math.abs(flies - places[bird]) <= figures[bird];
        }

        /** A thing as of HAPPENED. */
        void undergo(int thing) {
            if (thing == 1) {
                driveUp();
            } else if (thing == 2) {
                driveDown();
            } else if (thing >= 3) {
                scare(thing - 3);
            }
        }

        /** A CAT on a WIRE: how many went. */
        int scare(int wire) {
            int went = 0;
            for (int b = 0; b < birds; b++) {
                int to = places[b] == wire ? refuge(wire) : NONE;
                if (to >= 0) {
                    go(b, to);
                    went++;
                }
            }
            return went;
        }

        private int refuge(int wire) {
            for (int up = wire + 1; up < wires; up++) {
                if (hasRoom(up)) {
                    return up;
                }
            }
            for (int down = wire - 1; down >= 0; down--) {
                if (hasRoom(down)) {
                    return down;
                }
            }
            return NONE;
        }

        /** A HAWK: how many went to another WIRE. */
        int driveUp() {
            int went = 0;
            for (int b = 0; b < birds; b++) {
                int own = places[b];
                int to = own;
                for (int wire = wires - 1; wire > own && to == own; wire--) {
                    to = hasRoom(wire) ? wire : own;
                }
                go(b, to);
                went += to == own ? 0 : 1;
            }
            return went;
        }

        /** RAIN: how many went to another WIRE. */
        int driveDown() {
            int went = 0;
            for (int b = 0; b < birds; b++) {
                int own = places[b];
                int to = own;
                for (int wire = 0; wire < own && to == own; wire++) {
                    to = hasRoom(wire) ? wire : own;
                }
                go(b, to);
                went += to == own ? 0 : 1;
            }
            return went;
        }
    }

    /** What can be TAKEN BACK: where all sat and what HOUR it was, the latest eight times. */
    private static final class Past {
        private final int[][] seats = new int[MOST_BACK][MOST_BIRDS];
        private final int[] hours = new int[MOST_BACK];
        private int next;
        private int kept;

        void forget() {
            kept = 0;
        }

        void keep(Flock f) {
            System.arraycopy(f.places, 0, seats[next], 0, MOST_BIRDS);
            hours[next] = f.hour;
            next = (next + 1) % MOST_BACK;
            kept = Math.min(kept + 1, MOST_BACK);
        }

        void takeBack(Flock f) {
            next = (next + MOST_BACK - 1) % MOST_BACK;
            kept = Math.max(0, kept - 1);
            for (int b = 0; b < f.birds; b++) {
                f.go(b, seats[next][b]);
            }
            f.hour = hours[next];
        }
    }

    /** The letters in which a TOWN is told. */
    private static final class Text {
        /** Stands behind the last letter: no TOWN goes on with it, so what lacks is found at the end. */
        private static final int END = -1;

        private final int[] letters = new int[MOST_LETTERS];
        private int length;

        int put(int letter) {
            if (length < MOST_LETTERS) {
                letters[length] = letter;
                length++;
            }
            return length;
        }

        int letterAt(int place) {
            return place >= 0 && place < length ? letters[place] : END;
        }

        int digitAt(int place) {
            int letter = letterAt(place);
            return letter >= '0' && letter <= '9' ? letter - '0' : NONE;
        }

        /** How many digits a STATEMENT has behind its first letter; NONE: none begins so. */
        static int digitsBehind(int letter) {
            switch (letter) {
                case 'b':
                case 'w':
                    return 3;
                case 'f':
                case 'n':
                case 'c':
                    return 1;
                case 'h':
                case 'r':
                case 's':
                    return 0;
                default:
                    return NONE;
            }
        }

        /** The place of the first letter with which no TOWN can go on; NONE. */
        int oddPlace() {
            int place = 0;
            do {
                int digits = digitsBehind(letterAt(place));
                if (digits < 0) {
                    return place;
                }
                for (int i = 1; i <= digits; i++) {
                    if (digitAt(place + i) < 0) {
                        return place + i;
                    }
                }
                if (letterAt(place + digits + 1) != ';') {
                    return place + digits + 1;
                }
                place += digits + 2;
            } while (place < length);
            return NONE;
        }
    }

    /** The ROW of numbers, and what people think the HOUR is who are told as such a ROW. */
    private static final class Row {
        private final int[] numbers = new int[MOST_NUMBERS];
        private final int[] thoughts = new int[MOST_NUMBERS];
        private final int[] nextThoughts = new int[MOST_NUMBERS];
        private int length;

        int put(int v) {
            if (length < MOST_NUMBERS) {
                numbers[length] = v;
                length++;
            }
            return length;
        }

        int greatest() {
            int most = 0;
            for (int i = 0; i < length; i++) {
                most = Math.max(most, numbers[i]);
            }
            return most;
        }

        /** A WINTER: behind how many rounds nothing changes; the thoughts stay as they are then. */
        int agree() {
            for (int i = 0; i < length; i++) {
                thoughts[i] = numbers[i] % DIAL;
            }
            boolean changes = thinkOver();
            int rounds = 0;
            while (changes && rounds < FAR) {
                System.arraycopy(nextThoughts, 0, thoughts, 0, MOST_NUMBERS);
                changes = thinkOver();
                rounds++;
            }
            return changes ? NONE : rounds;
        }

        /** Makes the next round's thoughts; whether they are others. */
        private boolean thinkOver() {
            boolean changes = false;
            for (int i = 0; i < length; i++) {
                int before = thoughts[i > 0 ? i - 1 : length - 1];
                int behind = thoughts[i + 1 < length ? i + 1 : 0];
                nextThoughts[i] = length < 3 ? thoughts[i] : middle(before, thoughts[i], behind);
                changes = changes || nextThoughts[i] != thoughts[i];
            }
            return changes;
        }

        private static int middle(int a, int b, int c) {
            return Math.max(Math.min(a, b), Math.min(Math.max(a, b), c));
        }

        int unlikeThoughts() {
            int bits = 0;
            for (int i = 0; i < length; i++) {
                bits |= 1 << thoughts[i];
            }
            return Integer.bitCount(bits);
        }
    }

    /** What is sought among the ways to put FLIES, HOUR by HOUR. */
    private abstract static class Quest {
        final int[] way = new int[MOST_FED];
        final int[] found = new int[MOST_FED];
        final int[] told = new int[MOST_FED];
        int asked;
        int best;
        int foundHours;

        final void begin(int hours) {
            asked = hours;
            best = MANY;
            foundHours = 0;
        }

        final void hear(Row row) {
            System.arraycopy(row.numbers, 0, told, 0, MOST_FED);
        }

        /** Of what is behind the last of so many HOURS: nothing is told of now. */
        final boolean isAsTold(int hours, int value) {
            return hours < 1 || hours > MOST_FED || told[hours - 1] == value;
        }

        /** Looks at what is behind the first HOURS of the way: whether longer ones are worth a try. */
        abstract boolean opens(Flock f, int hours);

        final void keep(int measure, int hours) {
            best = measure;
            foundHours = Math.min(hours, MOST_FED);
            System.arraycopy(way, 0, found, 0, foundHours);
        }

        final int fliesPut(int hours) {
            int flies = 0;
            for (int i = 0; i < hours && i < MOST_FED; i++) {
                flies += way[i];
            }
            return flies;
        }

        final int bestOrNone() {
            return best < MANY ? best : NONE;
        }

        final int fliesAt(int i) {
            return i >= 0 && i < foundHours ? found[i] : NONE;
        }
    }

    /** Never WRONG, with the fewest FLIES: later ways of as many are not the first. */
    private static final class FeedingQuest extends Quest {
        boolean opens(Flock f, int hours) {
            int flies = fliesPut(hours);
            if (flies >= best || (hours > 0 && f.errs() != 0)) {
                return false;
            }
            if (hours >= asked) {
                keep(flies, hours);
            }
            return hours < asked;
        }
    }

    /** The most BIRDS on the highest WIRE: when there can't be more, there is no need to look on. */
    private static final class HighestQuest extends Quest {
        private int most;

        boolean opens(Flock f, int hours) {
            int highest = f.wires - 1;
            if (hours == 0) {
                most = 0;
            }
            if (hours >= asked && f.isWire(highest)) {
                most = Math.max(most, f.seated[highest]);
            }
            return hours < asked && most < Math.min(f.birds, WIRE_ROOM);
        }
    }

    /** Chords as the ROW tells: the first way is enough. */
    private static final class ChordQuest extends Quest {
        boolean opens(Flock f, int hours) {
            if (best < MANY || !isAsTold(hours, f.satOn())) {
                return false;
            }
            if (hours >= asked) {
                keep(1, hours);
            }
            return hours < asked;
        }
    }

    /** All ways by which WRONG is as the ROW tells. */
    private static final class MovedQuest extends Quest {
        private int ways;
        private int fed;

        boolean opens(Flock f, int hours) {
            if (hours == 0) {
                ways = 0;
                fed = 0;
            }
            if (!isAsTold(hours, f.errs())) {
                return false;
            }
            if (hours >= asked) {
                note(hours);
            }
            return hours < asked;
        }

        private void note(int hours) {
            ways++;
            best = Math.min(best, fliesPut(hours));
            for (int i = 0; i < hours && i < MOST_FED; i++) {
                if (way[i] > 0) {
                    fed |= 1 << (way[i] - 1);
                }
            }
        }
    }

    /** One BIRD on a WIRE, in the fewest HOURS. */
    private static final class LureQuest extends Quest {
        private int bird;
        private int wire;

        boolean opens(Flock f, int hours) {
            if (hours >= best) {
                return false;
            }
            if (f.places[bird] == wire) {
                keep(hours, hours);
                return false;
            }
            return hours < asked;
        }
    }

    /** All on so many WIRES or fewer, in the fewest HOURS. */
    private static final class GatherQuest extends Quest {
        private int wires;

        boolean opens(Flock f, int hours) {
            if (hours >= best) {
                return false;
            }
            if (Integer.bitCount(f.satOn()) <= wires) {
                keep(hours, hours);
                return false;
            }
            return hours < asked;
        }
    }
}
