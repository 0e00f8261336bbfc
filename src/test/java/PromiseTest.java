/** What each promise of the document asks, by small clocks whose answers are told by hand. */
public final class PromiseTest extends Asked {
    private static void p1() {
        ClockOfSwallows x = new ClockOfSwallows();
        int[] first = {0, 5, 0, 0, 0, 0, 0, 0, -9, -9, -9, 0, 0, 0, 0, 0, 0, -9};
        for (int what = 0; what < first.length; what++) {
            due(first[what], x.count(what), "count " + what);
        }
        for (int w = 0; w < 5; w++) {
            due(w, x.wire(w, 0), "WEIGHT " + w);
            due(0, x.wire(w, 1), "sit on " + w);
        }
        due(-1, x.wire(5, 0), "no sixth");
        due(-1, x.bird(0, 0), "no bird");
    }

    private static void p2() {
        ClockOfSwallows x = new ClockOfSwallows();
        due(-4, x.feed(-1), "feed -1");
        due(-6, x.feed(256), "feed 256");
        due(-6, x.feed(Integer.MAX_VALUE), "feed most");
        due(1, x.feed(0), "feed 0");
        due(2, x.feed(255), "feed 255");
        for (int i = 3; i <= 96; i++) {
            due(i, x.feed('h'), "feed " + i);
        }
        due(-6, x.feed('h'), "feed the 97th");
        due(-4, x.feed(-5), "feed -5 when full");
        due(96, x.count(5), "letters");
        due(-1000, x.town(), "town of a 0");
        due(1, x.feed('h'), "feed anew");
    }

    private static void p3faults() {
        ClockOfSwallows x = new ClockOfSwallows();
        String[] lacking = {"", "b", "b0", "b00", "b000", "n", "n1", "w0", "h", "h;s", "f", "c4", "b6", "w999"};
        for (String t : lacking) {
            due(-1000 - t.length(), tell(x, t), "lacks: " + t);
        }
        due(-1000, tell(x, ";"), ";");
        due(-1002, tell(x, "h;;"), "h;;");
        due(-1001, tell(x, "n/;"), "n/;");
        due(-1001, tell(x, "n:;"), "n:;");
        due(-1003, tell(x, "b00;"), "b00;");
        due(-1004, tell(x, "b0000;"), "b0000;");
        due(-1001, tell(x, "h0;"), "h0;");
        due(-1002, tell(x, "n9b000;"), "n9b000;");
        due(-1007, tell(x, "b900;h;x"), "kind 1 goes ahead of kind 2");
        due(-1000, tell(x, "B000;"), "B000;");
        due(-2000, tell(x, "b600;"), "b600;");
        due(-2000, tell(x, "b005;"), "b005;");
        due(-2005, tell(x, "b000;c5;"), "b000;c5;");
        due(-2005, tell(x, "b000;w012;"), "w012");
        due(-2005, tell(x, "b000;w500;"), "w500");
        due(-2002, tell(x, "h;f9;"), "f9");
        due(-2020, tell(x, "b000;b000;b000;b000;b000;"), "no ROOM");
        due(-2040, tell(x, "b000;b000;b000;b000;b011;b011;b011;b011;b012;"), "no room for a ninth");
        due(-2005, tell(x, "b000;b005;s;"), "the sixth comes too late");
        due(-2014, tell(x, "h;n9;b000;s;s;f5;"), "the sixth is gone");
        due(0, x.count(0), "nothing came");
        due(0, x.count(2), "no HOUR came");
        for (int what = 11; what <= 16; what++) {
            due(0, x.count(what), "FAULTS are not counted");
        }
    }

    private static void p3() {
        p3faults();
        ClockOfSwallows x = clock("b153;w411;f4;n2;");
        due(1, x.count(0), "BIRDS");
        due(3, x.count(2), "HOUR");
        due(11, x.wire(4, 0), "WEIGHT");
        due(0, x.count(5), "letters are gone");
        x = clock("b000;c0;");
        seats(x, "c", 1);
        tell(x, "h;");
        seats(x, "h", 4);
        tell(x, "r;");
        seats(x, "r", 0);
        due(3, tell(x, "s;b005;w507;"), "s");
        due(6, x.count(1), "WIRES");
        due(1, tell(x, "s;"), "s again");
        due(5, x.count(1), "WIRES");
        seats(x, "who was on the sixth", 0, 4);
        x.hawk();
        tell(x, "c7;");
        due(1, x.count(7), "a FAULT leaves what can be taken back");
        due(1, tell(x, "n0;"), "n0");
        due(0, x.count(7), "no FAULT: none");
        x = clock(hours(999));
        due(-2000, tell(x, "f0;"), "HOUR above 999");
        due(-2002, tell(x, "h;n1;"), "HOUR above 999");
        due(1, tell(x, "n0;"), "n0 at 999");
    }

    private static void p4() {
        ClockOfSwallows x = clock("b572;b004;");
        due(5, x.bird(0, 0), "KIND");
        due(7, x.bird(0, 1), "FIGURE");
        due(2, x.bird(0, 2), "WIRE");
        due(4, x.bird(1, 2), "WIRE");
        due(-1, x.bird(2, 0), "no BIRD");
        due(-1, x.bird(-1, 3), "NOBODY first");
        due(-2, x.bird(0, 3), "what");
        due(-2, x.bird(1, -1), "what");
        due(2, x.count(11), "-1 counted");
        due(2, x.count(12), "-2 counted");
    }

    private static void p5() {
        ClockOfSwallows x = new ClockOfSwallows();
        due(-1, x.comes(9, -1, 5), "WIRE first");
        due(-1, x.comes(0, 0, -1), "WIRE");
        due(-2, x.comes(6, -1, 0), "KIND");
        due(-2, x.comes(-1, 0, 0), "KIND");
        due(-4, x.comes(0, -1, 0), "FIGURE");
        due(-6, x.comes(0, 10, 0), "FIGURE");
        for (int i = 0; i < 4; i++) {
            due(i, x.comes(5, 9, 3), "comes");
        }
        due(-3, x.comes(0, 0, 3), "no ROOM");
        due(-6, x.comes(0, 10, 3), "-6 ahead of -3");
        x.hawk();
        due(1, x.count(7), "a HAWK");
        due(-3, x.comes(0, 0, 4), "no ROOM on 4");
        due(1, x.count(7), "refused: it can be taken back");
        due(4, x.comes(0, 0, 0), "comes");
        due(0, x.count(7), "comes leaves none");
        for (int i = 5; i < 8; i++) {
            due(i, x.comes(0, 0, 0), "comes");
        }
        due(-6, x.comes(0, 0, 0), "8 there are");
        due(-6, x.comes(0, 0, 1), "8 there are");
        due(-1, x.comes(0, 0, 5), "no sixth");
    }

    private static void p6() {
        ClockOfSwallows x = clock("b002;b002;b001;w209;");
        due(9, x.wire(2, 0), "WEIGHT");
        due(2, x.wire(2, 1), "sit");
        due(0, x.wire(4, 1), "sit");
        due(-1, x.wire(5, 9), "no WIRE first");
        due(-1, x.wire(-1, 0), "no WIRE");
        due(-2, x.wire(0, 2), "what");
        due(-2, x.wire(0, -1), "what");
        x.sixth(1);
        due(5, x.wire(5, 0), "the sixth's WEIGHT");
    }

    private static void p7() {
        ClockOfSwallows x = clock("b003;");
        x.cat(0);
        due(-1, x.weight(5, 12), "no WIRE first");
        due(-4, x.weight(0, -1), "below");
        due(-6, x.weight(0, 12), "above");
        due(1, x.count(7), "refused: it can be taken back");
        due(3, x.weight(3, 11), "was 3");
        due(11, x.weight(3, 0), "was 11");
        due(0, x.count(3), "SHOWN");
        due(0, x.count(7), "weight leaves none");
    }

    private static void p8() {
        ClockOfSwallows x = clock("b004;b004;b004;");
        x.cat(0);
        due(-2, x.sixth(2), "2");
        due(-2, x.sixth(-1), "-1");
        due(1, x.count(7), "refused");
        due(0, x.sixth(0), "it was not hung");
        due(0, x.count(7), "not refused: none");
        due(0, x.sixth(1), "hung");
        due(1, x.sixth(1), "hung");
        due(6, x.count(1), "WIRES");
        due(3, x.comes(0, 0, 5), "on the sixth");
        due(4, x.comes(0, 0, 5), "on the sixth");
        due(1, x.sixth(0), "taken down");
        seats(x, "one finds ROOM on 4, one on 3", 4, 4, 4, 4, 3);
        due(5, x.count(1), "WIRES");
        due(-1, x.cat(5), "no sixth");
    }

    private static void p9birds() {
        ClockOfSwallows x = clock("b000;");
        due(0, x.feeds(0), "BIRD there");
        due(1, x.feeds(4), "BIRD nearer");
        due(1, x.feeds(-1), "BIRD without");
        due(0, x.feeds(0), "BIRD down");
        x = clock("b102;");
        due(1, x.feeds(-1), "YOUNG at HOUR 0 of FIGURE 0");
        due(1, x.feeds(-1), "YOUNG at 1");
        due(2, x.feeds(3), "YOUNG at 2");
        due(2, x.feeds(3), "YOUNG at 3: up and one lower");
        due(2, x.feeds(2), "YOUNG at 4");
        x = clock("b120;");
        due(0, x.feeds(-1), "YOUNG 0 at 0");
        due(0, x.feeds(-1), "YOUNG: 0 at least");
        x = clock("b202;");
        due(2, x.feeds(3), "OLD stays beside FLIES");
        due(2, x.feeds(1), "OLD stays beside FLIES below");
        due(3, x.feeds(4), "OLD goes as a BIRD when they are two away");
        due(3, x.feeds(3), "OLD there");
        due(3, x.feeds(-1), "OLD without");
    }

    private static void p9kinds() {
        ClockOfSwallows x = clock("b320;");
        due(1, x.feeds(3), "SPARROW: three is too far, as a YOUNG");
        due(0, x.feeds(-1), "SPARROW without, as a YOUNG at 1 of FIGURE 2");
        due(2, x.feeds(2), "SPARROW two away");
        due(0, x.feeds(0), "SPARROW two away, down");
        due(0, x.feeds(0), "SPARROW there: it does not fidget");
        x = clock("b302;");
        due(2, x.feeds(2), "SPARROW of FIGURE 0 there");
        x = clock("b402;");
        due(3, x.feeds(3), "FIRST alone goes as a BIRD");
        x = clock("b402;b202;");
        due(4, x.feeds(3), "FIRST with another stays as an OLD");
        x = clock("b002;b402;");
        due(6, x.feeds(3), "FIRST is alone as it is its turn");
        x = clock("b554;");
        due(1, x.feeds(-1), "KEEPER of 5 goes to 1");
        due(1, x.feeds(4), "KEEPER stays below 2");
        due(1, x.feeds(-1), "KEEPER stays");
        x = clock("b560;");
        due(0, x.feeds(1), "KEEPER as an OLD");
        due(1, x.feeds(2), "KEEPER as an OLD");
        x = clock("b003;b002;b002;b002;b002;");
        due(11, x.feeds(2), "no ROOM on 2: it stays");
        x = clock("b002;b002;b002;b002;b003;");
        due(11, x.feeds(2), "no ROOM on 2: it stays");
        x = clock("b002;b002;b002;b002;b001;");
        due(2, x.feeds(3), "by numbers: those ahead make ROOM, all go");
    }

    private static void p9() {
        p9birds();
        p9kinds();
        ClockOfSwallows x = clock("b003;");
        due(-1, x.feeds(-2), "-2");
        due(-1, x.feeds(5), "5");
        x.sixth(1);
        due(4, x.feeds(5), "the sixth");
        due(5, x.feeds(5), "the sixth");
        due(2, x.count(2), "HOUR");
        x = clock(hours(999));
        due(-6, x.feeds(-1), "HOUR 999");
        due(-6, x.feeds(4), "HOUR 999");
        due(-1, x.feeds(5), "-1 first");
        due(0, x.count(7), "nothing to take back");
    }

    private static void p10() {
        ClockOfSwallows x = clock("b000;b000;b000;b001;b001;");
        due(3, x.cat(0), "three go");
        seats(x, "two find ROOM on 1, one on 2", 1, 1, 2, 1, 1);
        due(0, x.cat(0), "nobody there");
        due(0, x.count(2), "no HOUR");
        due(-1, x.cat(5), "no WIRE");
        due(-1, x.cat(-1), "no WIRE");
        x = clock("b003;b003;b003;b004;b004;");
        due(2, x.cat(4), "none above: down");
        seats(x, "one finds ROOM on 3, one on 2", 3, 3, 3, 3, 2);
        x = clock("b004;b004;b004;b004;b003;b003;");
        due(2, x.cat(3), "4 is full: down");
        seats(x, "down to 2", 4, 4, 4, 4, 2, 2);
    }

    private static void p11() {
        ClockOfSwallows x = clock("b000;b001;b002;b003;b004;b000;");
        due(4, x.hawk(), "4 gets full, then 3");
        seats(x, "4 has four, 3 two", 4, 4, 4, 3, 4, 3);
        due(0, x.hawk(), "who leaves its place may come back to it");
        due(2, x.count(7), "taken back");
        x = clock("b003;b000;b000;b000;b000;b001;");
        due(6, x.hawk(), "six go");
        seats(x, "by numbers", 4, 4, 4, 4, 3, 3);
        due(0, x.hawk(), "all stay");
        x.sixth(1);
        due(6, x.hawk(), "to the sixth");
        seats(x, "sixth", 5, 5, 5, 5, 4, 4);
    }

    private static void p12() {
        ClockOfSwallows x = clock("b004;b003;b002;b001;b000;b004;");
        due(4, x.rain(), "0 gets full, then 1");
        seats(x, "0 has four, 1 two", 0, 0, 0, 1, 0, 1);
        due(0, x.rain(), "all stay");
        due(2, x.count(7), "taken back");
    }

    private static void p13() {
        ClockOfSwallows x = clock("b000;b104;");
        due(-3, x.back(), "none");
        x.feeds(4);
        x.cat(1);
        x.hawk();
        x.rain();
        seats(x, "RAIN", 0, 0);
        due(1, x.back(), "RAIN back");
        seats(x, "HAWK", 4, 4);
        due(1, x.back(), "HAWK back");
        due(1, x.back(), "CAT back");
        seats(x, "HOUR", 1, 3);
        due(0, x.back(), "HOUR back");
        seats(x, "first", 0, 4);
        due(-3, x.back(), "no more");
        for (int i = 0; i < 9; i++) {
            x.feeds(-1);
        }
        due(8, x.count(7), "8 at most");
        for (int i = 8; i >= 1; i--) {
            due(i, x.back(), "back to " + i);
        }
        due(-3, x.back(), "older ones no more");
        due(2, x.wire(0, 1) + x.wire(1, 1) + x.wire(2, 1) + x.wire(3, 1) + x.wire(4, 1), "who sit");
    }

    private static void p14() {
        ClockOfSwallows x = clock("b102;");
        due(2, x.behind(0, 0), "now");
        due(1, x.behind(1, 0), "the YOUNG goes at 0");
        due(1, x.behind(3, 0), "not at 1, 2");
        due(0, x.behind(4, 0), "at 3");
        due(2, x.behind(0, 1), "WRONG now");
        due(0, x.behind(1, 1), "WRONG behind 1");
        due(4, x.behind(20, 1), "20 is 8: four from 12");
        due(-4, x.behind(-1, 2), "-4 first");
        due(-6, x.behind(21, 2), "-6 first");
        due(-2, x.behind(0, 2), "what");
        due(-2, x.behind(0, -1), "what");
        due(0, x.count(2), "in mind");
        x = clock(hours(999));
        due(1, x.behind(20, 1), "HOUR 1019 in mind");
    }

    private static void p15() {
        ClockOfSwallows x = clock("b102;b004;");
        due(2, x.where(0, 0), "now");
        due(1, x.where(0, 1), "behind 1");
        due(0, x.where(0, 20), "behind 20");
        due(4, x.where(1, 20), "another");
        due(-1, x.where(2, -1), "NOBODY first");
        due(-4, x.where(0, -1), "-1");
        due(-6, x.where(0, 21), "21");
    }

    private static void p16() {
        due(1, new ClockOfSwallows().firstWrong(), "no BIRDS");
        due(0, clock("b001;").firstWrong(), "now");
        // the YOUNG goes to 1 at HOUR 0 and stays there until HOUR 3
        due(1, clock("b102;w200;w100;").firstWrong(), "0 at HOUR 0, 0 at 1");
        due(2, clock("b102;w200;w101;").firstWrong(), "0 at HOUR 0, 1 at 1, 1 at 2");
        String long16 = "n4;s;b305;b125;b115;b204;b205;w008;w107;w206;w305;w404;w503;";
        due(16, clock(long16).firstWrong(), "YOUNG ones by turns");
    }

    private static void p17() {
        ClockOfSwallows x = new ClockOfSwallows();
        due(0, x.allWrong(0), "0");
        due(3, x.allWrong(2), "1 and 2");
        due(66, x.allWrong(20), "20");
        due(-4, x.allWrong(-1), "-1");
        due(-6, x.allWrong(21), "21");
        x = clock("b102;");
        due(0 + 1 + 2 + 4, x.allWrong(4), "SHOWN 1, 1, 1, 0 at 1 .. 4");
    }

    private static void p18() {
        ClockOfSwallows x = clock("b000;");
        due(2, x.feeding(1, -1), "FLIES on 1");
        due(2, x.feeding(1, 0), "the way");
        due(-9, x.feeding(1, 1), "no more");
        due(14, x.feeding(4, -1), "up each HOUR");
        for (int i = 0; i < 4; i++) {
            due(i + 2, x.feeding(4, i), "the way");
        }
        due(-4, x.feeding(0, -1), "n 0");
        due(-4, x.feeding(5, -2), "-4 first");
        due(-6, x.feeding(5, -1), "n 5");
        due(-9, x.feeding(4, Integer.MAX_VALUE), "far");
        x = clock("b000;w001;w101;");
        due(0, x.feeding(1, -1), "none is the fewest");
        due(0, x.feeding(1, 0), "none");
        x = clock("b001;w100;w001;w201;");
        due(1, x.feeding(1, -1), "1 by WIRE 0, 3 by WIRE 2");
        due(1, x.feeding(1, 0), "WIRE 0");
        x = clock("n4;b004;");
        due(-9, x.feeding(1, -1), "no way");
        due(-9, x.feeding(1, 0), "no way");
        // 1 is SHOWN on 0, 1, 2, then 2 on 3 alone
        x = clock("b001;w101;w201;w001;w302;");
        due(7, x.feeding(2, -1), "up and up");
        // 1 and then 2 are SHOWN by none and then WIRE 1, or by WIRE 0 twice: two FLIES either way
        x = clock("b001;b004;w301;w400;");
        due(2, x.feeding(2, -1), "two FLIES");
        due(0, x.feeding(2, 0), "none goes ahead of WIRE 0");
        due(2, x.feeding(2, 1), "then WIRE 1");
    }

    private static void p19() {
        ClockOfSwallows x = clock("b000;");
        due(2, x.closest(0), "FLIES on 1");
        due(0, x.closest(1), "right");
        due(-2, x.closest(2), "what");
        due(-2, x.closest(-1), "what");
        x = clock("b004;");
        due(1, x.closest(0), "of several the least: WIRE 0");
        due(2, x.closest(1), "3 at HOUR 1");
    }

    private static void p20() {
        ClockOfSwallows x = clock("b000;b002;b203;");
        due(0, x.highest(0), "now");
        due(0, x.highest(1), "1");
        due(1, x.highest(2), "2");
        due(2, x.highest(4), "the OLD one stays beside");
        due(-4, x.highest(-1), "-1");
        due(-6, x.highest(5), "5");
        x.sixth(1);
        due(1, x.highest(3), "the sixth is the highest");
        x = clock("b004;b004;b004;b004;b003;");
        due(4, x.highest(4), "ROOM for 4");
    }

    private static void p21() {
        ClockOfSwallows x = clock("b000;");
        due(255, x.happened(), "no ROW");
        row(x, 4);
        due(2, x.happened(), "HAWK");
        row(x, 1, 1);
        due(8, x.happened(), "CAT on 0");
        row(x, 0, 0, 0);
        due(245, x.happened(), "all else");
        due(3, x.count(6), "it stays");
        row(x, 12);
        due(0, x.happened(), "12 is never SHOWN");
        x = clock("b102;");
        row(x, 2, 1, 1, 1, 0);
        due(1 + 8 + 16 + 64 + 128, x.happened(), "nothing, or a CAT elsewhere");
    }

    private static void p22() {
        ClockOfSwallows x = clock("b000;");
        due(0, x.tellsMost(0), "0");
        due(3, x.tellsMost(1), "0, 4, 1");
        due(-2, x.tellsMost(2), "what");
        x = clock("b101;b500;w404;w004;w100;w204;w304;");
        due(3, x.tellsMost(1), "4 by nothing, 8 by a HAWK, 0 by the CAT on 0");
        // wherever the YOUNG is put, 4 is SHOWN; behind an HOUR it has gone from 2 to 1, if nothing happened
        x = clock("b102;w204;w304;w404;w004;w101;");
        due(2, x.tellsMost(1), "4 or 1");
        due(1, x.tellsMost(0), "behind an HOUR");
        // 10 by nothing, 7 by a HAWK, 1 by RAIN, 11 by a CAT, 9 by one on 4
        x = clock("b000;b001;b002;b003;b004;");
        due(5, x.tellsMost(1), "nothing is a thing, too");
        x = clock("n8;s;b402;b000;b100;b012;b003;b123;w007;w106;w208;w303;w404;w500;");
        due(8, x.tellsMost(0), "the last");
    }

    private static void p23() {
        due(1, clock("b000;").mixed(), "up");
        due(2, clock("b002;").mixed(), "up and down");
        due(3, clock("b002;b000;").mixed(), "each");
        due(1, clock("b002;w302;").mixed(), "the same SHOWN");
        due(8, clock("b004;b003;b003;b003;b003;").mixed(), "four go up, four down, one can't");
        due(2, clock("s;b004;").mixed(), "the sixth");
    }

    private static void p24() {
        ClockOfSwallows x = clock("b000;");
        due(0, x.near(0), "now");
        due(1, x.near(1), "1");
        due(3, x.near(3), "3");
        due(-9, x.near(4), "4 is too far");
        due(-4, x.near(-1), "-1");
        due(-6, x.near(12), "12");
        due(1, clock("b000;w111;").near(11), "11");
        x = clock("b000;b000;b000;b000;");
        due(3, x.near(3), "3");
        x = clock("b000;w003;w103;w205;");
        due(2, x.near(5), "a move that shows the same is a move");
        x = clock("b000;b001;b001;b001;b001;w105;");
        due(1, x.near(5), "one goes from 1 to 2");
        due(3, x.near(1), "there is no ROOM on 1: two others go, by 2 to 3 and to 0");
    }

    private static void p25() {
        ClockOfSwallows x = clock("b000;");
        due(1, x.read(0), "one way");
        due(31, x.read(1), "0 .. 4");
        due(62, clock("b000;w005;").read(1), "1 .. 5");
        due(-2, x.read(2), "what");
        x = clock("b000;b002;");
        due(2, x.read(0), "0 and 2, or both on 1");
        due(511, x.read(1), "0 .. 8");
        x = clock("b001;b001;b001;b001;b002;w000;w100;w200;w300;w400;");
        due(126 - 5, x.read(0), "all but five on one WIRE");
        due(1, x.read(1), "0 alone");
        x.sixth(1);
        due(1 + 32 + 1024 + 8 + 256, x.read(1), "the sixth weighs 5: 0, 5, 10, 3, 8");
        due(121, x.read(0), "nobody on the sixth");
    }

    private static void p26() {
        ClockOfSwallows x = clock("b000;");
        due(1, x.bestWeight(1), "WIRE 0, WEIGHT 1");
        due(1, x.bestWeight(2), "1 of several");
        due(-4, x.bestWeight(0), "0");
        due(-6, x.bestWeight(21), "21");
        due(-9, new ClockOfSwallows().bestWeight(20), "nobody");
        x = clock("b004;");
        due(401, x.bestWeight(1), "WIRE 4, WEIGHT 1");
        x = clock("b001;");
        due(-9, x.bestWeight(1), "it is right");
        due(1, x.wire(1, 0), "in mind");
        x = clock("s;b005;");
        due(501, x.bestWeight(1), "the sixth");
    }

    private static void p27() {
        ClockOfSwallows x = clock("b000;b003;n2;");
        due(0, x.bestWire(0, 0), "3 is one off, higher ones more");
        due(2, x.bestWire(1, 0), "2 shows 2");
        due(1, x.bestWire(0, 1), "without 0 it is 3");
        due(2, x.bestWire(1, 1), "without 1 it is 0");
        due(-1, x.bestWire(2, 9), "NOBODY first");
        due(-2, x.bestWire(0, 2), "what");
        x = clock("b002;b002;b002;b002;b000;w203;n3;");
        due(3, x.bestWire(4, 0), "there is no ROOM on 2");
        x = clock("b003;b003;b003;b003;");
        due(3, x.bestWire(3, 0), "its own has no ROOM but for it");
        x = clock("b001;w000;");
        due(0, x.bestWire(0, 0), "0");
        x = clock("b003;w303;w103;n3;");
        due(1, x.bestWire(0, 0), "of several the least");
    }

    private static void p28() {
        ClockOfSwallows x = clock("b000;b003;b003;");
        due(9, x.chord(0), "CHORD");
        // none: 9; WIRE 0: 5; 1: 0 to 1, 3 to 2: 6; 2: 6; 3: 1 and 3: 10; 4: 18
        due(5, x.chord(1), "NEXT CHORDS");
        due(-2, x.chord(2), "what");
        due(1, new ClockOfSwallows().chord(1), "nobody");
        x = clock("s;b005;");
        due(32, x.chord(0), "the sixth");
        due(2, x.chord(1), "it stays or goes");
    }

    private static void p29() {
        ClockOfSwallows x = clock("b000;");
        due(1, x.plays(-1), "no ROW");
        due(-9, x.plays(0), "no i-th");
        row(x, 2, 4, 2, 1);
        due(1, x.plays(-1), "up and down");
        int[] way = {2, 3, 1, 1};
        for (int i = 0; i < 4; i++) {
            due(way[i], x.plays(i), "i-th " + i);
        }
        due(-9, x.plays(4), "4");
        row(x, 1);
        due(0, x.plays(0), "none is the first");
        row(x, 4);
        due(0, x.plays(-1), "too far");
        due(-9, x.plays(0), "no way");
        due(-4, x.plays(-2), "-2");
        row(x, 63);
        due(0, x.plays(-1), "63");
        row(x, 64);
        due(-3, x.plays(-1), "64");
        due(-4, x.plays(-2), "-4 first");
        row(x, 1, 1, 1, 1, 1);
        due(-3, x.plays(-1), "five");
        due(5, x.count(6), "it stays");
    }

    private static void p30() {
        ClockOfSwallows x = clock("b000;");
        due(0, x.trains(0, 12, 20, 0), "0 at 0 and 12");
        due(19, x.trains(0, 12, 20, 1), "always there");
        due(2, x.trains(1, 12, 20, 0), "at 1 and 13");
        due(0, x.trains(1, 12, 20, 1), "never there");
        due(4, x.trains(2, 3, 11, 0), "2, 5, 8, 11");
        due(1, x.trains(2, 3, 2, 0), "2");
        due(0, x.trains(11, 1, 10, 0), "11 alone");
        due(-4, x.trains(-1, 13, 21, 2), "h");
        due(-4, x.trains(12, 0, 0, 0), "p");
        due(-4, x.trains(12, 1, -1, 0), "n");
        due(-6, x.trains(12, 1, 0, 2), "h");
        due(-6, x.trains(0, 13, 0, 0), "p");
        due(-6, x.trains(0, 1, 21, 0), "n");
        due(-2, x.trains(0, 1, 20, 2), "what");
    }

    private static void p31() {
        ClockOfSwallows x = clock("b000;");
        due(1, x.whoMoved(0), "no ROW");
        due(0, x.whoMoved(2), "no FLIES");
        row(x, 0);
        due(4, x.whoMoved(0), "WIRES 1 .. 4");
        due(30, x.whoMoved(1), "WIRES 1 .. 4");
        due(2, x.whoMoved(2), "FLIES on 1");
        row(x, 1);
        due(2, x.whoMoved(0), "none or WIRE 0");
        due(1, x.whoMoved(1), "WIRE 0");
        due(0, x.whoMoved(2), "none");
        row(x, 2);
        due(0, x.whoMoved(0), "no way");
        due(0, x.whoMoved(1), "no WIRE");
        due(-9, x.whoMoved(2), "no FLIES");
        row(x, 0, 0);
        due(12, x.whoMoved(0), "4 times 3");
        due(5, x.whoMoved(2), "2 and 3");
        row(x, 6);
        due(0, x.whoMoved(0), "6");
        row(x, 7);
        due(-3, x.whoMoved(0), "7");
        due(-2, x.whoMoved(3), "-2 first");
        row(x, 1, 1, 1, 1, 1);
        due(-3, x.whoMoved(0), "five");
    }

    private static void p32() {
        ClockOfSwallows x = clock("b000;");
        due(1, x.watch(0), "he feeds 0");
        due(0, x.watch(1), "whichever");
        due(1, x.watch(2), "he feeds 0");
        due(-2, x.watch(3), "what");
        due(-2, x.watch(-1), "what");
        // on 2 with WEIGHTS 7 below and 1 above and here: only FLIES on 0 or 1 are wrong
        x = clock("b002;w107;w201;w301;");
        due(6, x.watch(0), "0 or 1 is left");
        due(0, x.watch(1), "whichever");
        due(0, x.watch(2), "kept away: 1");
        x = clock("b001;w007;w101;w201;");
        due(0, x.watch(0), "only 0 is wrong, and is kept");
        due(0, x.watch(1), "WIRE 0");
        x = clock("b003;w407;w301;w201;");
        due(0, x.watch(0), "only 4 is wrong");
        due(4, x.watch(1), "WIRE 4");
    }

    private static void p33() {
        ClockOfSwallows x = new ClockOfSwallows();
        due(-3, x.winter(1), "no ROW");
        due(-2, x.winter(2), "-2 first");
        row(x, 3, 15);
        due(0, x.winter(0), "two stay");
        due(1, x.winter(1), "15 is 3");
        row(x, 3, 4);
        due(2, x.winter(1), "two");
        row(x, 1, 5, 9);
        due(1, x.winter(0), "all think 5");
        due(1, x.winter(1), "5");
        row(x, 0, 1, 0, 1);
        due(-9, x.winter(0), "to and fro");
        due(2, x.winter(1), "two");
        row(x, 2, 2, 7, 7);
        due(0, x.winter(0), "pairs stay");
        due(2, x.winter(1), "pairs");
        // 0 0 1 0 1 0 1 1, 0 0 0 1 0 1 1 1, 0 0 0 0 1 1 1 1
        row(x, 0, 0, 1, 0, 1, 0, 1, 1);
        due(2, x.winter(0), "from both ends");
        due(8, x.count(6), "it stays");
    }

    private static void p34() {
        due(0, clock("b000;").settled(), "BIRDS stay");
        due(1, clock("b101;").settled(), "it goes at 0");
        due(0, clock("b201;").settled(), "OLD ones stay");
        // FIGURE 1: it goes at 2, 5, 8, 11 from 4
        due(12, clock("b114;").settled(), "behind 12");
        due(0, clock("b100;").settled(), "there is no lower one");
    }

    private static void p35() {
        due(3, clock("b000;").round(), "BIRDS stay");
        due(-9, clock("b101;").round(), "it goes and stays there");
        due(3, clock("b554;r;b000;").round(), "KEEPERS stay");
        due(-9, clock("b554;").round(), "a KEEPER goes down");
    }

    private static void p36() {
        ClockOfSwallows x = clock("b000;b004;b203;");
        due(2, x.always(4, 0), "the OLD one stays beside");
        due(4, x.always(4, 1), "behind 4");
        due(2, x.always(0, 0), "the OLD one stays beside");
        due(4, x.always(0, 1), "behind 4");
        due(-1, x.always(5, 2), "no WIRE");
        due(-2, x.always(0, 2), "what");
        x.sixth(1);
        due(2, x.always(5, 0), "the sixth");
    }

    private static void p37() {
        due(-9, clock("b000;").catWorth(), "right now");
        due(0, clock("b000;n1;").catWorth(), "CAT on 0 shows 1");
        due(4, clock("b004;n3;").catWorth(), "CAT on 4 shows 3");
        due(-9, clock("b000;b000;n1;").catWorth(), "2 is 1 off too");
        due(1, clock("b001;b002;w102;w203;w304;n6;").catWorth(), "of several the least");
        due(5, clock("s;b005;n4;").catWorth(), "the sixth");
    }

    private static void p38() {
        ClockOfSwallows x = clock("b000;b000;b000;b003;");
        due(2, x.spread(0), "WIRES");
        due(3, x.spread(1), "the most");
        due(3, x.spread(2), "two go: by 1 and 2");
        due(-2, x.spread(3), "what");
        due(0, new ClockOfSwallows().spread(2), "nobody");
        due(0, clock("b000;b001;b002;b003;b004;b004;").spread(2), "even");
        due(2, clock("s;b005;b005;b000;b001;b002;b004;").spread(2), "one goes from 5 to 3");
        due(9, clock("b000;b000;b000;b000;b001;").spread(2), "0 0 0 0 1 to 0 1 2 3 4");
    }

    private static void p39() {
        ClockOfSwallows x = clock("b004;");
        due(8, x.later(0, 0), "0 less 4");
        due(4, x.later(0, 1), "12 less that");
        due(0, x.later(4, 0), "4 less 4");
        due(0, x.later(4, 1), "0 for 0");
        due(4, x.later(20, 0), "20 less 4");
        due(-4, x.later(-1, 2), "-1");
        due(-6, x.later(21, 2), "21");
        due(-2, x.later(0, 2), "what");
    }

    private static void p40() {
        ClockOfSwallows x = clock("b004;b104;b114;");
        due(7, x.stayed(0), "0");
        due(5, x.stayed(1), "the YOUNG of 0 goes");
        due(5, x.stayed(2), "2");
        due(1, x.stayed(3), "the YOUNG of 1 goes");
        due(-4, x.stayed(-1), "-1");
        due(-6, x.stayed(21), "21");
        due(0, new ClockOfSwallows().stayed(20), "nobody");
    }

    private static void p41() {
        ClockOfSwallows x = clock("b000;b200;");
        due(0, x.lured(0, 0, -1), "there");
        due(-9, x.lured(0, 0, 0), "no way needed");
        due(4, x.lured(0, 4, -1), "4");
        int[] way = {2, 3, 4, 5};
        for (int i = 0; i < 4; i++) {
            due(way[i], x.lured(0, 4, i), "i-th " + i);
        }
        due(-9, x.lured(0, 4, 4), "no more");
        due(1, x.lured(1, 1, -1), "OLD");
        due(3, x.lured(1, 1, 0), "FLIES on 2");
        due(-9, x.lured(1, 4, -1), "OLD stays beside");
        due(-9, x.lured(1, 4, 0), "no way");
        due(-1, x.lured(2, 0, -2), "NOBODY first");
        due(-1, x.lured(0, 5, -2), "NOBODY first");
        due(-1, x.lured(-1, 0, 0), "NOBODY");
        due(-4, x.lured(0, 0, -2), "-2");
        x.sixth(1);
        due(-9, x.lured(0, 5, -1), "five is too far");
    }

    private static void p42() {
        ClockOfSwallows x = new ClockOfSwallows();
        due(0, x.right(0, 0), "0");
        due(0, x.right(11, 0), "11");
        due(1, x.right(20, 0), "12");
        due(1, x.right(20, 1), "12");
        due(-4, x.right(-1, 2), "-1");
        due(-6, x.right(21, 2), "21");
        due(-2, x.right(20, 2), "what");
        // a YOUNG of 1 on 2 (WEIGHT 1) goes at 2, then 1 (WEIGHT 3) is SHOWN: right behind 1 and 3, 13 and 15
        x = clock("b112;w201;w103;");
        due(2, x.right(4, 0), "1 and 3");
        due(1, x.right(4, 1), "one by one");
        // a YOUNG of 2 goes at 1: behind 1 the HOUR 1, behind 2 the HOUR 2
        x = clock("b122;w201;w102;");
        due(2, x.right(3, 1), "1 and 2");
        due(3, x.right(20, 0), "1, 2, and 0 at 12");
    }

    private static void p43() {
        due(-9, new ClockOfSwallows().worstBird(), "nobody");
        due(-9, clock("b000;").worstBird(), "right now");
        due(1, clock("b000;b001;").worstBird(), "WRONG by 1");
        due(0, clock("b001;b001;n1;").worstBird(), "of several the least");
        due(2, clock("b001;b002;b003;b000;n3;").worstBird(), "without 3 it is right");
        due(-9, clock("b001;n4;").worstBird(), "it is needed");
    }

    private static void p44() {
        ClockOfSwallows x = clock("b000;b002;b004;");
        due(0, x.gather(3), "now");
        due(1, x.gather(2), "by FLIES on 1: 1 1 3");
        due(2, x.gather(1), "by FLIES on 2, twice");
        due(-4, x.gather(0), "0");
        due(-6, x.gather(7), "7");
        due(0, x.gather(6), "6");
        due(0, new ClockOfSwallows().gather(1), "nobody");
    }

    private static void p45() {
        ClockOfSwallows x = new ClockOfSwallows();
        due(-4, x.row(-1), "-1");
        due(-6, x.row(100), "100");
        due(1, x.row(99), "99");
        for (int i = 2; i <= 12; i++) {
            due(i, x.row(0), "row " + i);
        }
        due(-6, x.row(0), "12 there are");
        due(-4, x.row(-1), "-4 first");
        due(12, x.count(6), "12");
    }

    private static void p46() {
        ClockOfSwallows x = clock("b102;");
        due(-9, x.judge(), "no ROW");
        row(x, 2, 1, 1, 1, 0);
        due(-9, x.judge(), "all so");
        due(0, x.count(6), "the ROW has none");
        row(x, 2, 1, 1, 0, 0);
        due(3, x.judge(), "3 is not so");
        due(0, x.count(6), "the ROW has none");
        row(x, 14);
        due(0, x.judge(), "14 is not 2");
    }

    private static void p47() {
        ClockOfSwallows x = new ClockOfSwallows();
        row(x, 1, 2, 3);
        due(3, x.clear(), "three");
        due(0, x.clear(), "none");
        due(1, x.row(5), "anew");
    }

    private static void p48() {
        ClockOfSwallows x = new ClockOfSwallows();
        due(66, x.lots(1, 1, 0), "20 HOURS");
        due(1, x.lots(1, -5, 1), "12");
        due(36 * 3 + 10, x.lots(2, 7, 0), "40 HOURS: 3 times round and 1, 2, 3, 4");
        due(3, x.lots(2, 7, 1), "12, 24, 36");
        due(36 * 33 + 10, x.lots(20, 7, 0), "400 HOURS");
        due(-4, x.lots(0, 0, 2), "0");
        due(-6, x.lots(21, 0, 2), "21");
        due(-2, x.lots(1, 0, 2), "what");
        x = clock("b000;");
        due(lotsOfOne(1, 99), x.lots(1, 99, 0), "one BIRD");
        due(lotsOfOne(3, -12345), x.lots(3, -12345, 0), "one BIRD");
        due(0, x.count(2), "in mind");
    }

    /** One BIRD on WIRE 0 at HOUR 0: a HAWK, RAIN or the CAT where it sits put it elsewhere. */
    private static int lotsOfOne(int n, int z) {
        int at = 0;
        int all = 0;
        for (int hour = 1; hour <= 20 * n; hour++) {
            z = z * 1103515245 + 12345;
            int thing = (z & 0x7fffffff) / 65536 % 8;
            if (thing == 1) {
                at = 4;
            } else if (thing == 2) {
                at = 0;
            } else if (thing == at + 3) {
                at = at == 4 ? 3 : at + 1;
            }
            int apart = Math.abs(hour % 12 - at);
            all += Math.min(apart, 12 - apart);
        }
        return all;
    }

    private static void p49and50() {
        ClockOfSwallows x = clock("b153;w210;n2;");
        due(-3, x.restore(), "there is none");
        due(2, x.image(), "HOUR");
        x.sixth(1);
        x.comes(0, 0, 5);
        x.weight(2, 1);
        x.weight(5, 9);
        x.row(7);
        x.feed('h');
        x.feeds(4);
        due(1, x.count(7), "an HOUR");
        due(2, x.restore(), "HOUR");
        due(1, x.count(0), "BIRDS");
        due(5, x.count(1), "WIRES");
        due(10, x.wire(2, 0), "WEIGHT");
        due(1, x.count(6), "the ROW is as it was");
        due(1, x.count(5), "letters are as they were");
        due(0, x.count(7), "none can be TAKEN BACK");
        due(1, x.count(13), "REFUSALS are as they were");
        seats(x, "restored", 2);
        due(-3, x.back(), "none");
        x.sixth(1);
        due(5, x.wire(5, 0), "the WEIGHT of the sixth");
        x.hawk();
        due(2, x.image(), "an image leaves what can be taken back");
        due(1, x.count(7), "a HAWK");
        x.rain();
        due(2, x.restore(), "again");
        seats(x, "the latter image", 5);
        due(2, x.restore(), "once more");
    }

    private static void p51() {
        ClockOfSwallows x = clock("b003;b002;n9;");
        x.row(1);
        x.row(2);
        x.feed('x');
        x.hawk();
        int[] is = {2, 5, 9, 8, 1, 1, 2, 1, -9};
        for (int what = 0; what < is.length; what++) {
            due(is[what], x.count(what), "count " + what);
        }
        due(-9, x.count(-1), "-1");
        due(-9, x.count(10), "10");
        due(-9, x.count(17), "17");
        due(-9, x.count(Integer.MIN_VALUE), "least");
        due(-9, x.count(Integer.MAX_VALUE), "most");
        x.cat(9);
        x.closest(7);
        x.closest(8);
        x.restore();
        x.row(-1);
        x.row(-1);
        x.row(-1);
        x.row(100);
        int[] refusals = {1, 2, 1, 3, 0, 1};
        for (int i = 0; i < refusals.length; i++) {
            due(refusals[i], x.count(11 + i), "REFUSALS -" + (i + 1));
        }
    }

    private static void askFirst() {
        ask("1", PromiseTest::p1);
        ask("2", PromiseTest::p2);
        ask("3", PromiseTest::p3);
        ask("4", PromiseTest::p4);
        ask("5", PromiseTest::p5);
        ask("6", PromiseTest::p6);
        ask("7", PromiseTest::p7);
        ask("8", PromiseTest::p8);
        ask("9", PromiseTest::p9);
        ask("10", PromiseTest::p10);
        ask("11", PromiseTest::p11);
        ask("12", PromiseTest::p12);
        ask("13", PromiseTest::p13);
        ask("14", PromiseTest::p14);
        ask("15", PromiseTest::p15);
        ask("16", PromiseTest::p16);
        ask("17", PromiseTest::p17);
        ask("18", PromiseTest::p18);
        ask("19", PromiseTest::p19);
        ask("20", PromiseTest::p20);
        ask("21", PromiseTest::p21);
        ask("22", PromiseTest::p22);
        ask("23", PromiseTest::p23);
        ask("24", PromiseTest::p24);
        ask("25", PromiseTest::p25);
    }

    private static void askLast() {
        ask("26", PromiseTest::p26);
        ask("27", PromiseTest::p27);
        ask("28", PromiseTest::p28);
        ask("29", PromiseTest::p29);
        ask("30", PromiseTest::p30);
        ask("31", PromiseTest::p31);
        ask("32", PromiseTest::p32);
        ask("33", PromiseTest::p33);
        ask("34", PromiseTest::p34);
        ask("35", PromiseTest::p35);
        ask("36", PromiseTest::p36);
        ask("37", PromiseTest::p37);
        ask("38", PromiseTest::p38);
        ask("39", PromiseTest::p39);
        ask("40", PromiseTest::p40);
        ask("41", PromiseTest::p41);
        ask("42", PromiseTest::p42);
        ask("43", PromiseTest::p43);
        ask("44", PromiseTest::p44);
        ask("45", PromiseTest::p45);
        ask("46", PromiseTest::p46);
        ask("47", PromiseTest::p47);
        ask("48", PromiseTest::p48);
        ask("49, 50", PromiseTest::p49and50);
        ask("51", PromiseTest::p51);
    }

    public static void main(String[] args) {
        askFirst();
        askLast();
        end();
    }
}
