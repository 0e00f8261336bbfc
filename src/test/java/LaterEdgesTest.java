/** The edges of what is thought of in mind: promises 34 to 44, and parts III and IV of the Terms. */
public final class LaterEdgesTest extends Asked {
    private static final String FOUR_ON_0 = "b000;".repeat(4);
    private static final String FOUR_ON_1 = "b001;".repeat(4);
    private static final String LATE = hours(999);
    private static final int MAX = Integer.MAX_VALUE;

    private static ClockOfSwallows empty() {
        return new ClockOfSwallows();
    }

    private static void p34() {
        due(0, empty().settled(), "no BIRDS");
        due(0, clock(FOUR_ON_0 + FOUR_ON_1).settled(), "BIRDS stay");
        due(0, clock(FOUR_ON_0 + "b101;b111;b121;").settled(), "YOUNG ones without ROOM stay");
        due(1, clock("b594;").settled(), "a KEEPER goes at once, never again");
        due(0, clock("b593;").settled(), "a KEEPER stays where it may");
        due(1, clock("b101;").settled(), "it goes in the first HOUR");
        due(2, clock("b111;n1;").settled(), "it goes in the second");
        due(3, clock("b111;").settled(), "it goes in the third: two quiet ones are too few");
        due(9, clock("b104;n1;").settled(), "it goes in the third, 6th and 9th");
        due(2, clock(hours(998) + "b101;").settled(), "it goes in HOUR 999");
        // the latest of all that were tried: -9 would need some 40 HOURS, and they go to lower WIRES alone
        due(25, clock("s;b115;b105;b024;b105;b014;b544;b105;b014;").settled(), "by ROOM that comes late");
    }

    private static void p35() {
        due(3, empty().round(), "no BIRDS");
        due(3, clock(FOUR_ON_0 + "b101;").round(), "who has no ROOM stays");
        due(-9, clock(FOUR_ON_0 + "b102;").round(), "who goes to a lower WIRE never comes back");
        due(-9, clock("b104;").round(), "it goes in the first HOUR");
        due(-9, clock("b124;").round(), "it goes in the second HOUR");
        due(-9, clock("b114;").round(), "it goes in the third HOUR");
        due(-9, clock("b101;b000;").round(), "one has gone, and all others are as now");
        due(-9, clock("b000;b101;").round(), "one has gone, and all others are as now");
        due(3, clock("b100;b110;b120;").round(), "0 at least");
        due(-9, clock(LATE + "b101;").round(), "HOUR 999");
        due(3, clock(LATE + "b004;").round(), "HOUR 999");
    }

    private static void p36() {
        for (int w = 0; w <= 4; w++) {
            due(0, empty().always(w, 0), "no BIRDS");
            due(0, empty().always(w, 1), "no BIRDS, behind 0 HOURS first");
        }
        ClockOfSwallows x = clock("s;b000;");
        due(1, x.always(5, 0), "the sixth");
        due(5, x.always(5, 1), "behind 5");
        due(1, x.always(0, 0), "it is there");
        due(0, x.always(0, 1), "it is there");
        x = clock(FOUR_ON_0 + FOUR_ON_1);
        due(4, x.always(1, 0), "ROOM for 4");
        due(0, x.always(1, 1), "from now on");
        due(4, x.always(2, 0), "ROOM for 4");
        due(1, x.always(2, 1), "all from 1 in an HOUR");
        x = clock("b104;b003;");
        due(2, x.always(4, 0), "one goes lower at HOUR 0 and comes back");
        due(2, x.always(4, 1), "behind 2");
        x = clock("s;n2;b552;b243;b110;b150;b141;b491;b191;b250;");
        due(4, x.always(5, 0), "four in the end");
        due(18, x.always(5, 1), "the latest of all that were tried");
        due(1, clock(LATE + "b004;").always(4, 0), "HOUR 999");
        due(4, clock(LATE + "b000;").always(4, 1), "HOUR 999");
    }

    private static void p37() {
        due(-9, empty().catWorth(), "no BIRDS");
        due(-9, clock(hours(6)).catWorth(), "no BIRDS, 6 off");
        due(0, clock("b000;n1;").catWorth(), "the first WIRE");
        due(4, clock("b004;n3;").catWorth(), "the last WIRE");
        due(-9, clock("s;b004;n3;").catWorth(), "up to the sixth is worse");
        due(4, clock("s;b004;n5;").catWorth(), "up to the sixth");
        due(5, clock("s;b005;n4;").catWorth(), "the sixth is the last");
        due(-9, clock("b000;w001;w103;n2;").catWorth(), "as WRONG is not less");
        due(-9, clock("b001;b002;n3;").catWorth(), "it is right");
        due(0, clock("b000;b001;w101;w202;n2;").catWorth(), "of several the least");
        due(1, clock("b000;b001;w003;w100;w203;w306;n6;").catWorth(), "the least, not the first that is better");
        due(4, clock(LATE + "b004;").catWorth(), "HOUR 999 is 3");
    }

    private static void p38() {
        spread(empty(), 0, 0, 0, "no BIRDS");
        spread(clock("b002;"), 1, 1, 0, "1 and 0 are even");
        spread(clock("b002;b002;"), 1, 2, 1, "2 and 0 are not");
        spread(clock(FOUR_ON_0), 1, 4, 6, "0 1 2 3");
        spread(clock(FOUR_ON_0 + FOUR_ON_1), 2, 4, 9, "2 2 2 1 1");
        spread(clock("s;" + FOUR_ON_0 + FOUR_ON_1), 2, 4, 12, "2 2 1 1 1 1");
        spread(clock("b003;".repeat(4) + "b004;".repeat(4)), 2, 4, 9, "1 1 2 2 2");
        spread(clock("b000;b001;b002;b003;b003;"), 4, 2, 1, "one to 4");
        spread(clock("b000;b001;b002;b003;b004;"), 5, 1, 0, "one on each");
        spread(clock("s;b000;b001;b002;b003;b004;"), 5, 1, 0, "none on the sixth");
        spread(clock("s;b000;b001;b002;b003;b004;b004;"), 5, 2, 1, "one to the sixth");
        spread(clock("s;b000;b000;b001;b002;b003;b004;"), 5, 2, 5, "five go up by one");
        spread(clock("s;b000;b001;b002;b003;b004;b005;b005;b005;"), 6, 3, 1, "2 and 1 are even");
    }

    private static void spread(ClockOfSwallows x, int wires, int most, int even, String told) {
        due(wires, x.spread(0), told + ": WIRES with somebody");
        due(most, x.spread(1), told + ": the most");
        due(even, x.spread(2), told + ": EVEN");
    }

    private static void p39() {
        ClockOfSwallows x = empty();
        int[] late = {0, 1, 2, 3, 4, 5, 6, 7, 8, 9, 10, 11, 0, 1, 2, 3, 4, 5, 6, 7, 8};
        for (int n = 0; n <= 20; n++) {
            due(late[n], x.later(n, 0), "too late behind " + n);
            due(late[n] == 0 ? 0 : 12 - late[n], x.later(n, 1), "too early behind " + n);
        }
        x = clock("b001;w111;");
        due(1, x.later(0, 0), "0 less 11");
        due(11, x.later(0, 1), "12 less that");
        due(0, x.later(11, 0), "11 less 11");
        due(0, x.later(11, 1), "0 for 0");
        due(9, x.later(20, 0), "8 less 11");
        x = clock(LATE);
        due(3, x.later(0, 0), "999");
        due(11, x.later(20, 0), "1019");
        due(1, x.later(20, 1), "1019");
        due(999, x.count(2), "in mind");
    }

    private static void p40() {
        due(0, empty().stayed(0), "no BIRDS");
        due(0, empty().stayed(20), "no BIRDS");
        due(255, clock(FOUR_ON_0 + FOUR_ON_1).stayed(20), "8 BIRDS");
        ClockOfSwallows x = clock("b104;".repeat(4) + "b003;b003;b003;b592;");
        int[] stayed = {255, 254, 254, 254, 252, 252, 252, 248, 248, 248, 240};
        for (int n = 0; n < stayed.length; n++) {
            due(stayed[n], x.stayed(n), "each third HOUR there is ROOM for one more, behind " + n);
        }
        due(240, x.stayed(20), "no more");
        due(1, clock("n2;b004;b594;b314;").stayed(1), "a KEEPER, a SPARROW");
        due(0, clock(LATE + "b101;").stayed(1), "HOUR 999");
        due(1, clock(LATE + "b111;").stayed(2), "HOURS 999 and 1000");
    }

    private static void p41() {
        ClockOfSwallows up = clock("b000;");
        way(i -> up.lured(0, 0, i), "it is there", 0);
        way(i -> up.lured(0, 1, i), "next", 1, 2);
        way(i -> up.lured(0, 4, i), "four HOURS", 4, 2, 3, 4, 5);
        ClockOfSwallows six = clock("s;b001;b000;b390;b594;");
        way(i -> six.lured(0, 5, i), "to the sixth", 4, 3, 4, 5, 6);
        way(i -> six.lured(1, 5, i), "five HOURS", -9);
        way(i -> six.lured(2, 5, i), "a SPARROW at once", 1, 6);
        way(i -> six.lured(3, 5, i), "a KEEPER never", -9);
        way(i -> six.lured(3, 3, i), "a KEEPER of 9 by none", 1, 0);
        ClockOfSwallows young = clock("b101;");
        way(i -> young.lured(0, 0, i), "it goes by itself", 1, 0);
        ClockOfSwallows later = clock("n1;b101;");
        way(i -> later.lured(0, 0, i), "it goes by FLIES", 1, 1);
        ClockOfSwallows old = clock("b000;b201;b201;b201;b201;");
        way(i -> old.lured(0, 1, i), "1 has no ROOM until they go to 2", 2, 4, 2);
        ClockOfSwallows late = clock(LATE + "b001;b101;");
        way(i -> late.lured(1, 0, i), "HOUR 999", 1, 0);
        way(i -> late.lured(0, 4, i), "HOUR 999", 3, 3, 4, 5);
        due(-1, up.lured(1, 0, -1), "no such BIRD");
        due(-1, up.lured(0, 5, -1), "no such WIRE");
        due(-1, up.lured(1, 5, -2), "-1 ahead of -4");
        due(-4, up.lured(0, 0, -2), "-2");
        due(-9, up.lured(0, 4, MAX), "far");
    }

    private static void p42() {
        ClockOfSwallows x = empty();
        due(0, x.right(0, 0), "now is not asked");
        due(0, x.right(0, 1), "now is not asked");
        due(0, x.right(11, 0), "11");
        due(1, x.right(12, 0), "12");
        due(1, x.right(20, 1), "12");
        x = clock("b000;w008;");
        due(0, x.right(7, 0), "7");
        due(1, x.right(8, 0), "8");
        due(1, x.right(19, 0), "8");
        due(2, x.right(20, 0), "8 and 20");
        due(1, x.right(20, 1), "not in a row");
        x = clock("n4;s;b305;b125;b115;b204;b205;w008;w107;w206;w305;w404;w503;");
        due(14, x.right(14, 0), "14");
        due(15, x.right(15, 1), "15 in a row");
        due(15, x.right(20, 0), "15 and no more");
        due(15, x.right(20, 1), "15 in a row");
        x = clock(LATE);
        due(0, x.right(8, 0), "1007");
        due(1, x.right(9, 0), "1008");
        due(1, x.right(20, 0), "1008");
        x = clock(LATE + "b004;");
        due(1, x.right(1, 0), "1000");
        due(2, x.right(13, 0), "1000 and 1012");
        due(1, x.right(12, 0), "1000");
    }

    private static void p43() {
        due(-9, empty().worstBird(), "no BIRDS");
        due(0, clock("b003;").worstBird(), "the first");
        due(7, clock(FOUR_ON_0 + "b001;b001;b001;b004;n3;").worstBird(), "the last of 8");
        due(-9, clock("b002;n1;").worstBird(), "as WRONG is not less");
        due(-9, clock("b004;n4;").worstBird(), "it is right");
        due(1, clock("b000;b002;b002;n2;").worstBird(), "of several the least");
        due(2, clock("b001;b001;b002;n2;").worstBird(), "the least, not the first that is better");
        due(0, clock("b003;b003;w311;" + hours(11)).worstBird(), "22 is 10, 11 without one");
        due(0, clock(LATE + "b004;b003;").worstBird(), "HOUR 999 is 3");
    }

    private static void p44() {
        for (int k = 1; k <= 6; k++) {
            due(0, empty().gather(k), "no BIRDS");
            due(k < 2 ? -9 : 0, clock(FOUR_ON_0 + "b001;").gather(k), "five never sit on one");
            due(k < 2 ? 4 : 0, clock("s;b200;b205;").gather(k), "OLD ones want FLIES two away");
        }
        String six = "s;b000;b001;b002;b003;b004;b005;";
        int[] hours = {-9, 2, 2, 1, 1, 0};
        for (int k = 1; k <= 6; k++) {
            due(hours[k - 1], clock(six).gather(k), "one on each, on " + k);
        }
        due(3, clock("b200;b001;b204;").gather(1), "1 2 3 by 2, 2 3 3 by 3, 2 2 2 by 1");
        due(4, clock("s;b500;b004;").gather(1), "a KEEPER waits on 0");
        due(-9, clock("s;b500;b005;").gather(1), "five HOURS");
        due(1, clock("b101;b000;").gather(1), "by none, at HOUR 0");
        due(1, clock(LATE + "b101;b000;").gather(1), "HOUR 999");
        due(0, clock("b003;").gather(1), "one is always on one");
    }

    public static void main(String[] args) {
        ask("34", LaterEdgesTest::p34);
        ask("35", LaterEdgesTest::p35);
        ask("36", LaterEdgesTest::p36);
        ask("37", LaterEdgesTest::p37);
        ask("38", LaterEdgesTest::p38);
        ask("39", LaterEdgesTest::p39);
        ask("40", LaterEdgesTest::p40);
        ask("41", LaterEdgesTest::p41);
        ask("42", LaterEdgesTest::p42);
        ask("43", LaterEdgesTest::p43);
        ask("44", LaterEdgesTest::p44);
        end();
    }
}
