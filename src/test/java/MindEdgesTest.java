/** The edges of what is thought of in mind: promises 14 to 33 and 48, and part II of the Terms. */
public final class MindEdgesTest extends Asked {
    private static final String FOUR_ON_0 = "b000;".repeat(4);
    private static final String FOUR_ON_1 = "b001;".repeat(4);
    /** Four on 3 and four on 4: all 8 that can come. */
    private static final String FULL = "b003;".repeat(4) + "b004;".repeat(4);
    private static final String LATE = hours(999);
    private static final int MAX = Integer.MAX_VALUE;

    private static ClockOfSwallows empty() {
        return new ClockOfSwallows();
    }

    // ---- 14 to 17: behind HOURS without FLIES ----

    private static void p14() {
        ClockOfSwallows x = empty();
        due(0, x.behind(0, 1), "now");
        due(1, x.behind(1, 1), "1");
        due(6, x.behind(6, 1), "6 is the farthest");
        due(5, x.behind(7, 1), "7 is nearer by the other way");
        due(0, x.behind(12, 1), "once round");
        due(5, x.behind(19, 1), "19");
        due(4, x.behind(20, 1), "20");
        due(0, x.behind(20, 0), "no BIRDS");
        x = clock("b104;");
        int[] shown = {4, 3, 3, 3, 2, 2, 2, 1, 1, 1, 0, 0, 0};
        for (int n = 0; n < shown.length; n++) {
            due(shown[n], x.behind(n, 0), "a YOUNG one behind " + n);
        }
        x = clock("b101;w006;w111;b122;w207;");
        due(6, x.behind(0, 0), "18 is 6");
        due(1, x.behind(1, 0), "13 is 1");
        due(5, x.behind(2, 0), "17 is 5");
        x = clock(LATE);
        due(3, x.behind(0, 1), "HOUR 999 is 3");
        due(4, x.behind(1, 1), "HOUR 1000 is 4");
        due(1, x.behind(20, 1), "HOUR 1019 is 11");
        due(999, x.count(2), "in mind");
    }

    private static void p15() {
        ClockOfSwallows x = clock("s;b563;b594;b023;b105;b104;b003;b124;b123;");
        due(3, x.where(7, 0), "now");
        due(1, x.where(6, 19), "it goes in the 20th HOUR");
        due(0, x.where(6, 20), "it goes in the 20th HOUR");
        due(3, x.bird(0, 2), "in mind");
        x = clock(LATE + "b103;b113;");
        due(2, x.where(0, 1), "at HOUR 999 with FIGURE 0");
        due(3, x.where(1, 2), "at HOUR 999, 1000 with FIGURE 1");
        due(2, x.where(1, 3), "at HOUR 1001 with FIGURE 1");
    }

    private static void p16() {
        due(0, clock("b001;").firstWrong(), "now");
        due(1, empty().firstWrong(), "behind an HOUR");
        due(0, clock(LATE).firstWrong(), "HOUR 999 is 3");
        due(1, clock(LATE + "b003;").firstWrong(), "HOUR 1000 is 4");
        due(1, clock("b001;w011;" + hours(12) + "w100;").firstWrong(), "HOUR 12 is 0");
        // three YOUNG ones go up by 1 by turns, five times each: -9 would need 20 HOURS of going, and by what can
        // be found (they go to lower WIRES alone) there are never more than 18 one behind the other
        due(16, clock("n4;s;b305;b125;b115;b204;b205;w008;w107;w206;w305;w404;w503;").firstWrong(), "behind 16");
    }

    private static void p17() {
        ClockOfSwallows x = empty();
        int[] all = {0, 1, 3, 6, 10, 15, 21, 26, 30, 33, 35, 36, 36, 37};
        for (int n = 0; n < all.length; n++) {
            due(all[n], x.allWrong(n), "no BIRDS, " + n);
        }
        due(62, x.allWrong(19), "19");
        due(66, x.allWrong(20), "20");
        x = clock(LATE);
        due(0, x.allWrong(0), "0 HOURS behind 999");
        due(4 + 5 + 6 + 5, x.allWrong(4), "HOURS 1000 to 1003");
    }

    // ---- 18 to 20: FLIES that are sought ----

    private static void p18() {
        ClockOfSwallows none = clock(hours(11));
        way(i -> none.feeding(1, i), "no BIRDS, 12 is 0", 0, 0);
        way(i -> none.feeding(2, i), "no BIRDS can't show 1", -9);
        way(i -> none.feeding(4, i), "no BIRDS can't show 1", -9);
        ClockOfSwallows up = clock("b000;");
        way(i -> up.feeding(1, i), "up once", 2, 2);
        way(i -> up.feeding(4, i), "up four times", 14, 2, 3, 4, 5);
        ClockOfSwallows sixth = clock("s;b001;n1;");
        way(i -> sixth.feeding(4, i), "up to the sixth", 18, 3, 4, 5, 6);
        ClockOfSwallows last = clock("s;b004;n4;");
        way(i -> last.feeding(1, i), "the sixth alone", 6, 6);
        ClockOfSwallows first = clock("b001;w011;w100;" + hours(10));
        way(i -> first.feeding(1, i), "WIRE 0 is one of FLIES", 1, 1);
        ClockOfSwallows late = clock(LATE + "b004;");
        way(i -> late.feeding(1, i), "HOUR 1000 is 4", 0, 0);
        way(i -> late.feeding(2, i), "HOUR 1001 is 5", -9);
        // none and then WIRE 3 would do, too, with four FLIES
        ClockOfSwallows down = clock("b002;w201;w302;w101;w002;");
        way(i -> down.feeding(2, i), "the fewest FLIES, not the first way", 2, 1, 1);
        // 1 is SHOWN by none as well
        ClockOfSwallows still = clock("b001;w201;w000;");
        way(i -> still.feeding(1, i), "none is fewest", 0, 0);
        due(0, still.count(2), "in mind");
    }

    private static void p19() {
        due(0, empty().closest(0), "no BIRDS: none is the least of all");
        due(1, empty().closest(1), "HOUR 1");
        ClockOfSwallows x = clock(hours(5));
        due(0, x.closest(0), "all are as far");
        due(6, x.closest(1), "6");
        due(0, clock(hours(11)).closest(1), "12 is 0");
        x = clock("b000;");
        due(2, x.closest(0), "WIRES 1 .. 4 are one: the least");
        x = clock("s;b004;n4;");
        due(6, x.closest(0), "the sixth");
        due(0, x.closest(1), "5 at HOUR 5");
        x = clock(LATE + "b003;");
        due(5, x.closest(0), "HOUR 1000 is 4");
        due(0, x.closest(1), "HOUR 1000 is 4");
        due(1, clock("b001;" + hours(11)).closest(0), "WIRE 0 is better than none");
        x = clock("b203;n3;");
        due(0, x.closest(0), "FLIES two away, on 5, there are none");
        due(1, x.closest(1), "3 at HOUR 4");
    }

    private static void p20() {
        for (int n = 0; n <= 4; n++) {
            due(0, empty().highest(n), "no BIRDS");
            due(n < 4 ? 0 : 1, clock("b000;").highest(n), "four HOURS from 0 to 4");
            due(4, clock(FULL).highest(n), "4 on a WIRE");
            due(n == 0 ? 0 : 4, clock("s;" + FULL).highest(n), "all four from 4 to the sixth");
        }
        due(0, clock("s;b000;").highest(4), "the sixth is too far");
        due(1, clock("s;b001;").highest(4), "four HOURS from 1 to the sixth");
        ClockOfSwallows x = clock("b104;");
        due(1, x.highest(0), "now");
        due(0, x.highest(1), "it goes lower whatever is fed");
        due(1, x.highest(2), "and comes back");
        due(1, x.highest(3), "and stays");
        due(0, x.highest(4), "and goes lower at HOUR 3");
        due(0, clock("b593;b104;" + LATE).highest(1), "HOUR 999: a YOUNG one goes, a KEEPER stays");
    }

    // ---- 21, 22: things that happen ----

    private static void p21() {
        ClockOfSwallows x = empty();
        due(255, x.happened(), "no BIRDS, no ROW");
        row(x, 0);
        due(255, x.happened(), "no BIRDS show 0");
        row(x, 1);
        due(0, x.happened(), "no BIRDS don't show 1");
        x = clock("b002;");
        int[][] by = {{2, 1 + 8 + 16 + 64 + 128}, {4, 2}, {0, 4}, {3, 32}, {1, 0}, {12, 0}, {14, 0}, {99, 0}};
        for (int[] b : by) {
            row(x, b[0]);
            due(b[1], x.happened(), b[0] + " is SHOWN");
        }
        x = clock("s;b005;");
        row(x, 4);
        due(0, x.happened(), "a CAT on the sixth is none of the things");
        row(x, 5);
        due(255 - 4, x.happened(), "all but RAIN");
        x = clock("b102;");
        rowAsShown(x, 12);
        due(1 + 8 + 16 + 64 + 128, x.happened(), "12 numbers");
        due(12, x.count(6), "the ROW stays");
        row(x, 2, 1, 1, 1, 0, 0, 0, 0, 0, 0, 0, 1);
        due(0, x.happened(), "the 12th is not so");
        x = clock(LATE + "b102;");
        row(x, 2, 1, 1, 1, 0);
        due(1 + 8 + 16 + 64 + 128, x.happened(), "behind HOUR 999");
        due(0, x.count(7), "in mind");
    }

    private static void p22() {
        due(0, empty().tellsMost(0), "no BIRDS");
        due(1, empty().tellsMost(1), "no BIRDS");
        ClockOfSwallows x = clock("n8;s;b402;b000;b100;b012;b003;b123;w007;w106;w208;w303;w404;w500;");
        due(8, x.tellsMost(0), "behind 8");
        due(5, clock("b000;b001;b002;b003;b004;").tellsMost(1), "five of eight");
        x = clock("b004;");
        due(0, x.tellsMost(0), "of several the least");
        due(3, x.tellsMost(1), "4, by RAIN 0, by a CAT 3");
        due(2, clock("s;b005;").tellsMost(1), "5, by RAIN 0: a CAT on the sixth is none of the things");
        x = clock(FULL);
        due(3, x.tellsMost(1), "28 is 4, by the CATS on 3 and 4 24 is 0 and 20 is 8");
        due(0, x.count(2), "in mind");
    }

    // ---- 23 to 25: other seats ----

    private static void p23() {
        due(0, empty().mixed(), "no BIRDS");
        due(4, clock(FOUR_ON_0).mixed(), "none below 0");
        due(1, clock("b004;").mixed(), "none above 4");
        due(2, clock("s;b004;").mixed(), "the sixth");
        due(1, clock("s;b005;").mixed(), "none above the sixth");
        due(4, clock(FOUR_ON_0 + FOUR_ON_1).mixed(), "no ROOM between 0 and 1");
        due(4, clock(FULL).mixed(), "down from 3");
        due(1, clock("b001;w001;").mixed(), "0 shows the same");
        due(2, clock("b001;w000;w111;").mixed(), "11 shows another");
        due(2, clock("b001;w011;w100;").mixed(), "11 shows another");
        due(0, clock("b001;w001;w201;").mixed(), "neither shows another");
    }

    private static void p24() {
        due(0, empty().near(0), "no BIRDS");
        due(-9, empty().near(11), "no BIRDS");
        ClockOfSwallows x = clock("b000;");
        int[] near = {0, 1, 2, 3, -9, -9, -9, -9, -9, -9, -9, -9};
        for (int h = 0; h <= 11; h++) {
            due(near[h], x.near(h), "from 0 to " + h);
        }
        due(-9, clock("b004;").near(5), "no sixth");
        due(1, clock("s;b004;").near(5), "the sixth");
        due(3, clock("s;b002;").near(5), "the sixth");
        x = clock("b003;b004;w306;w405;");
        due(0, x.near(11), "11");
        due(1, x.near(0), "12 is 0");
        due(1, x.near(10), "10");
        x = clock("b001;w011;w100;");
        due(1, x.near(11), "11");
        due(0, x.near(0), "0");
        x = clock(FOUR_ON_0 + FOUR_ON_1);
        due(1, x.near(5), "1 to 2");
        due(2, x.near(6), "1 to 2, twice");
        due(3, x.near(7), "1 to 2, three times");
        due(-9, x.near(3), "nobody has ROOM to go down");
        due(0, clock(LATE).near(0), "the HOUR is of no account");
    }

    private static void p25() {
        due(1, empty().read(0), "no BIRDS: one way");
        due(1, empty().read(1), "no BIRDS: 0");
        String light = "w100;w200;w300;w400;";
        ClockOfSwallows x = clock(FULL + light);
        due(320, x.read(0), "8 on five WIRES, 4 at most on each");
        due(1, x.read(1), "0 alone");
        x = clock("s;w500;" + FULL + light);
        due(951, x.read(0), "8 on six WIRES, 4 at most on each");
        due(4095, clock(FULL).read(1), "4 to 28: all HOURS");
        due(63, clock("s;b000;").read(1), "one on six WIRES");
        due(15 + 2048, clock("b000;w411;").read(1), "WEIGHT 11");
        x = clock("b001;b001;b001;b001;b002;w001;" + light);
        due(31, x.read(1), "4 at most on 0");
        due(52, x.read(0), "five on four WIRES");
        x = clock("b001;b001;w106;w400;");
        due(4, x.read(0), "12 is 0: both on 0, on 1, on 4, or on 0 and 4");
    }

    // ---- 26, 27: best weights and wires ----

    private static void p26() {
        due(-9, empty().bestWeight(1), "no BIRDS");
        due(-9, clock("b001;").bestWeight(1), "none is less than now");
        due(-9, clock(hours(11)).bestWeight(20), "no BIRDS");
        due(11, clock("b000;" + hours(10)).bestWeight(1), "WIRE 0, WEIGHT 11");
        due(0, clock("b000;w005;" + hours(11)).bestWeight(1), "WIRE 0, WEIGHT 0");
        due(100, clock("b001;" + hours(11)).bestWeight(1), "WIRE 1, WEIGHT 0");
        due(400, clock("b004;" + hours(11)).bestWeight(1), "WIRE 4, WEIGHT 0");
        due(500, clock("s;b005;" + hours(11)).bestWeight(1), "the sixth, WEIGHT 0");
        due(511, clock("s;b005;" + hours(10)).bestWeight(1), "the sixth, WEIGHT 11");
        due(111, clock("b001;b002;").bestWeight(1), "of several the least: 11 and 2");
        ClockOfSwallows x = clock("b000;");
        due(3, x.bestWeight(18), "3 or 4 from 1 to 6, once round");
        due(4, x.bestWeight(19), "4 from 1 to 7, once round");
        due(4, x.bestWeight(20), "4 or 5 from 1 to 8, once round");
        due(5, clock("b000;n1;").bestWeight(20), "5 or 6 from 2 to 9, once round");
        due(4, clock(LATE + "b000;").bestWeight(1), "HOUR 1000 is 4");
        due(0, x.wire(0, 0), "in mind");
    }

    private static void p27() {
        due(-1, empty().bestWire(0, 0), "no BIRDS");
        ClockOfSwallows x = clock("b003;n5;");
        due(4, x.bestWire(0, 0), "4 is the nearest");
        due(5, x.bestWire(0, 1), "nobody shows 0");
        due(5, clock("s;b003;n5;").bestWire(0, 0), "the sixth");
        x = clock(FOUR_ON_0 + FOUR_ON_1);
        due(1, x.bestWire(7, 0), "0 has no ROOM, its own is as good as it is");
        due(3, x.bestWire(7, 1), "without the last");
        due(0, x.bestWire(0, 0), "1 has no ROOM, 4 is as good as its own: the least");
        due(4, x.bestWire(0, 1), "without the first");
        due(-1, x.bestWire(8, 1), "no ninth");
        x = clock(FOUR_ON_0 + "b001;n9;n2;");
        due(1, x.bestWire(4, 1), "0 is one from 11");
        due(0, x.bestWire(3, 0), "1 is two from 11, 2 is three");
    }

    // ---- 28, 29: chords ----

    private static void p28() {
        due(0, empty().chord(0), "no BIRDS");
        due(1, empty().chord(1), "no BIRDS: 0 alone");
        ClockOfSwallows x = clock("s;b000;b001;b002;b003;b004;b005;");
        due(63, x.chord(0), "all six");
        due(2, clock("b000;").chord(1), "0 or 1");
        due(2, clock("b004;").chord(1), "4 or 3");
        due(3, clock("b002;").chord(1), "1, 2 or 3");
        due(3, clock("s;b004;").chord(1), "the sixth, too");
        due(6, clock("s;b390;").chord(1), "each WIRE: none is as 0");
        due(7, clock("s;b390;b001;").chord(1), "each WIRE, and none");
        due(24, clock(FULL).chord(0), "4 on a WIRE");
    }

    private static void p29() {
        ClockOfSwallows none = empty();
        way(i -> none.plays(i), "no ROW", 1);
        row(none, 0, 0, 0, 0);
        way(i -> none.plays(i), "no BIRDS play none", 1, 0, 0, 0, 0);
        row(none, 0, 0, 0, 1);
        way(i -> none.plays(i), "no BIRDS play nothing else", 0);
        ClockOfSwallows six = clock("s;b000;b001;b002;b003;b004;b005;");
        row(six, 63);
        way(i -> six.plays(i), "63", 1, 0);
        row(six, 63, 64);
        due(-3, six.plays(-1), "64");
        due(-3, six.plays(MAX), "64");
        due(-4, six.plays(-2), "-4 ahead of -3");
        row(six, 63, 63, 63, 63, 63);
        due(-3, six.plays(-1), "five");
        ClockOfSwallows one = clock("s;b004;");
        row(one, 32, 16, 8, 16);
        way(i -> one.plays(i), "to the sixth and back", 1, 6, 1, 1, 5);
        row(one, 32, 16, 4);
        way(i -> one.plays(i), "too far at last", 0);
        row(six, 63, 64);
        row(six, 63);
        way(i -> six.plays(i), "64 was in a ROW that is no more", 1, 0);
        ClockOfSwallows late = clock(LATE + "b104;");
        row(late, 8, 8);
        way(i -> late.plays(i), "at HOUR 999 it goes by itself", 1, 0, 0);
        due(2, late.count(6), "the ROW stays");
    }

    // ---- 30, 31: trains, who moved it ----

    private static void p30() {
        ClockOfSwallows x = empty();
        for (int what = 0; what <= 1; what++) {
            due(0, x.trains(0, 12, 0, what), "0 at HOUR 0");
            due(0, x.trains(0, 1, 20, what), "at each HOUR");
            due(0, x.trains(1, 12, 0, what), "neither is a TRAIN's at HOUR 0");
        }
        due(1, x.trains(0, 12, 1, 1), "for none at HOUR 1");
        due(18, x.trains(0, 12, 19, 1), "19 without 12");
        due(19, x.trains(0, 12, 20, 1), "20 without 12");
        due(1, x.trains(1, 12, 12, 0), "at HOUR 1 alone");
        due(2, x.trains(1, 12, 13, 0), "at HOUR 13, too");
        due(2, x.trains(6, 6, 20, 0), "6 and 18: 12 is not below 12");
        due(0, x.trains(6, 6, 20, 1), "0 is no TRAIN's");
        due(3, x.trains(6, 5, 20, 0), "6, 11 and 18");
        due(0, x.trains(11, 1, 10, 0), "11 is not yet");
        due(1, x.trains(11, 1, 11, 0), "11");
        due(1, x.trains(11, 12, 20, 0), "11");
        due(2, x.trains(8, 12, 20, 0), "8 and 20");
        due(1, x.trains(8, 12, 19, 0), "8");
        x = clock(LATE);
        due(1, x.trains(3, 12, 0, 0), "HOUR 999 is 3");
        due(2, x.trains(3, 12, 20, 0), "999 and 1011");
        due(20, x.trains(0, 12, 20, 1), "all but 1008");
        x = clock("b001;w111;");
        due(1, x.trains(11, 12, 0, 1), "11 SHOWN, a TRAIN's");
        due(11, x.trains(11, 12, 10, 1), "ten more");
        due(11, x.trains(11, 12, 11, 1), "at 11 it is right");
    }

    private static void p31() {
        ClockOfSwallows x = empty();
        asks(x, 1, 0, 0, "no ROW");
        row(x, 1);
        asks(x, 6, 31, 0, "no BIRDS");
        row(x, 1, 2, 3, 4);
        asks(x, 6 * 6 * 6 * 6, 31, 0, "no BIRDS");
        row(x, 1, 2, 3, 5);
        asks(x, 0, 0, -9, "no BIRDS");
        row(x, 1, 2, 3, 4, 5);
        due(-3, x.whoMoved(0), "five");
        due(-2, x.whoMoved(3), "-2 ahead of -3");
        x.sixth(1);
        row(x, 1, 2, 3, 4);
        asks(x, 7 * 7 * 7 * 7, 63, 0, "no BIRDS, six WIRES");
        x = clock(hours(5));
        row(x, 6);
        asks(x, 6, 31, 0, "6");
        row(x, 7);
        due(-3, x.whoMoved(2), "7");
        x = clock("s;b004;n4;");
        row(x, 0, 1, 2, 3);
        asks(x, 8, 32, 6, "the sixth, then it stays by none or the sixth");
        row(x, 0);
        asks(x, 1, 32, 6, "the sixth");
        x = clock("b000;");
        row(x, 0, 0);
        asks(x, 12, 30, 5, "up by 1 .. 4, up by 2 .. 4");
        row(x, 1);
        asks(x, 2, 1, 0, "it stays by none or 0: a longer ROW is of no account");
        x = clock(LATE + "b003;");
        row(x, 0);
        asks(x, 1, 16, 5, "HOUR 1000 is 4");
        x = clock("b004;" + hours(11));
        row(x, 3, 3);
        asks(x, 4, 31, 6, "down to 3 by WIRE 0 .. 3, up to 4 by WIRE 4");
    }

    private static void asks(ClockOfSwallows x, int ways, int wires, int flies, String told) {
        due(ways, x.whoMoved(0), told + ": ways");
        due(wires, x.whoMoved(1), told + ": WIRES");
        due(flies, x.whoMoved(2), told + ": FLIES");
    }

    // ---- 32, 33, 48: watch, winter, lots ----

    private static void p32() {
        int[] wrong = {1, 2, 3, 4, 5, 6, 5, 4, 3, 2, 1, 0};
        for (int hour = 0; hour < 12; hour++) {
            ClockOfSwallows x = clock(hours(hour));
            due(wrong[hour], x.watch(0), "no BIRDS at " + hour);
            due(0, x.watch(1), "no BIRDS at " + hour);
            due(wrong[hour], x.watch(2), "no BIRDS at " + hour);
        }
        ClockOfSwallows x = clock("s;b004;n4;");
        due(2, x.watch(0), "the sixth is not fed: down to 3");
        due(0, x.watch(1), "of several the least");
        due(1, x.watch(2), "kept away");
        x = clock("s;b005;n4;w409;");
        due(4, x.watch(0), "down to 4");
        due(0, x.watch(2), "kept away");
        x = clock("s;n1;b395;w002;w102;w202;w302;w402;w508;");
        due(6, x.watch(0), "he feeds what is kept away, and it stays");
        due(0, x.watch(1), "of several the least");
        x.tellsMost(0);
        due(0, x.watch(2), "whichever he feeds and whatever was looked at, it goes there");
    }

    private static void winter(int rounds, int unlike, int... row) {
        ClockOfSwallows x = empty();
        row(x, row);
        due(rounds, x.winter(0), java.util.Arrays.toString(row) + " rounds");
        due(unlike, x.winter(1), java.util.Arrays.toString(row) + " unlike");
        due(row.length, x.count(6), "the ROW stays");
    }

    private static void p33() {
        winter(0, 1, 0);
        winter(0, 1, 99);
        winter(0, 1, 0, 12);
        winter(0, 1, 3, 99);
        winter(0, 2, 11, 12);
        winter(0, 2, 0, 11);
        winter(1, 1, 0, 12, 1);
        winter(1, 1, 0, 11, 5);
        winter(1, 1, 0, 13, 12, 0);
        winter(-9, 2, 0, 1, 0, 1);
        winter(-9, 2, 0, 11, 0, 11, 0, 11, 0, 11, 0, 11, 0, 11);
        // 2 0 2 1 2 1, 1 2 1 2 1 2, 2 1 2 1 2 1 and so on
        winter(-9, 2, 0, 2, 0, 2, 1, 2);
        winter(1, 10, 0, 1, 2, 3, 4, 5, 6, 7, 8, 9, 10, 11);
        winter(5, 1, 1, 0, 1, 0, 1, 0, 1, 0, 1, 0, 0, 0);
    }

    private static void p48() {
        for (int z : new int[] {0, 1, -1, 12345, MAX, Integer.MIN_VALUE}) {
            for (int n : new int[] {1, 2, 19, 20}) {
                lots(n, z, false);
                lots(n, z, true);
            }
        }
        ClockOfSwallows x = clock(LATE);
        due(15 + 15 + 36, x.lots(1, 5, 0), "4 5 6, 5 .. 1, once round from 1008");
        due(1, x.lots(1, 5, 1), "1008");
        due(999, x.count(2), "in mind");
    }

    /** One BIRD on 4 at HOUR 0, and the int that goes round as a rest of 2 to the 32nd. */
    private static void lots(int n, int z, boolean isHung) {
        long rest = z & 0xffffffffL;
        int top = isHung ? 5 : 4;
        int at = 4;
        int all = 0;
        int right = 0;
        for (int hour = 1; hour <= 20 * n; hour++) {
            rest = (rest * 1103515245L + 12345L) % 4294967296L;
            long thing = rest % 2147483648L / 65536 % 8;
            if (thing == 1) {
                at = top;
            } else if (thing == 2) {
                at = 0;
            } else if (thing == at + 3) {
                at = at == top ? at - 1 : at + 1;
            }
            int apart = Math.abs(hour % 12 - at);
            all += Math.min(apart, 12 - apart);
            right += apart == 0 ? 1 : 0;
        }
        ClockOfSwallows x = clock((isHung ? "s;" : "") + "b004;");
        due(all, x.lots(n, z, 0), "LOTS of " + n + " years with " + z);
        due(right, x.lots(n, z, 1), "how often right in " + n + " years with " + z);
        due(4, x.bird(0, 2), "in mind");
    }

    public static void main(String[] args) {
        ask("14", MindEdgesTest::p14);
        ask("15", MindEdgesTest::p15);
        ask("16", MindEdgesTest::p16);
        ask("17", MindEdgesTest::p17);
        ask("18", MindEdgesTest::p18);
        ask("19", MindEdgesTest::p19);
        ask("20", MindEdgesTest::p20);
        ask("21", MindEdgesTest::p21);
        ask("22", MindEdgesTest::p22);
        ask("23", MindEdgesTest::p23);
        ask("24", MindEdgesTest::p24);
        ask("25", MindEdgesTest::p25);
        ask("26", MindEdgesTest::p26);
        ask("27", MindEdgesTest::p27);
        ask("28", MindEdgesTest::p28);
        ask("29", MindEdgesTest::p29);
        ask("30", MindEdgesTest::p30);
        ask("31", MindEdgesTest::p31);
        ask("32", MindEdgesTest::p32);
        ask("33", MindEdgesTest::p33);
        ask("48", MindEdgesTest::p48);
        end();
    }
}
