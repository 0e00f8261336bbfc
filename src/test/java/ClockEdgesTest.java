/** The edges of what is on the clock: promises 1 to 13, 45 to 47 and 49 to 51, and part I of the Terms. */
public final class ClockEdgesTest extends Asked {
    private static final String FOUR_ON_0 = "b000;".repeat(4);

    private static ClockOfSwallows empty() {
        return new ClockOfSwallows();
    }

    // ---- 1: a new object ----

    private static void p1() {
        ClockOfSwallows x = empty();
        due(0, x.image(), "HOUR 0");
        due(0, x.behind(0, 0), "SHOWN 0");
        due(0, x.sixth(0), "the sixth is not hung");
        due(-1000, x.town(), "no letters");
        due(0, x.clear(), "no ROW");
        due(-3, x.back(), "nothing to take back");
        due(-3, empty().restore(), "no image");
        ClockOfSwallows y = empty();
        x = clock("s;b005;w007;");
        x.feeds(5);
        x.row(3);
        x.feed('h');
        x.image();
        x.cat(9);
        int[] still = {0, 5, 0, 0, 0, 0, 0, 0};
        for (int what = 0; what < still.length; what++) {
            due(still[what], y.count(what), "another object knows nothing of it: count " + what);
        }
        due(0, y.count(11), "another object counts its own refusals");
        due(0, y.wire(0, 0), "another object has its own WEIGHTS");
        due(-3, y.restore(), "another object has no image");
    }

    // ---- 2, 3: letters and towns ----

    private static void p2() {
        ClockOfSwallows x = empty();
        due(1, x.feed('h'), "the first");
        for (int i = 2; i <= 95; i++) {
            due(i, x.feed(i), "the " + i + "th");
        }
        due(96, x.feed(255), "the 96th");
        due(-6, x.feed(0), "a 97th");
        due(-6, x.feed(255), "a 97th");
        due(-6, x.feed(256), "a 97th that is above, too");
        due(-4, x.feed(-1), "a 97th that is below");
        due(96, x.count(5), "96 letters");
        due(3, x.count(16), "REFUSALS -6");
        due(1, x.count(14), "REFUSALS -4");
        due(-1001, x.town(), "the second letter is no ;");
        due(0, x.count(5), "no letters then");
        due(1, x.feed(0), "the first again");
    }

    /** Each of the 256 letters at one place: some make a TOWN, other digits are out of range, the rest fit nowhere. */
    private static void each(String ahead, String behind, String good, boolean isDigit) {
        for (int letter = 0; letter < 256; letter++) {
            String text = ahead + (char) letter + behind;
            boolean outOfRange = isDigit && letter >= '0' && letter <= '9';
            int due = good.indexOf(letter) >= 0 ? 1 : outOfRange ? -2000 : -1000 - ahead.length();
            due(due, tell(empty(), text), "town " + ahead + "(" + letter + ")" + behind);
        }
    }

    private static void eachLetter() {
        String digits = "0123456789";
        each("b", "12;", "012345", true);
        each("b1", "2;", digits, true);
        each("b12", ";", "01234", true);
        each("b123", "", ";", false);
        each("w", "11;", "01234", true);
        each("w1", "1;", "01", true);
        each("w11", ";", "01", true);
        each("w10", ";", digits, true);
        each("w101", "", ";", false);
        each("f", ";", "01234", true);
        each("f1", "", ";", false);
        each("n", ";", digits, true);
        each("n1", "", ";", false);
        each("c", ";", "01234", true);
        each("c1", "", ";", false);
        each("h", "", ";", false);
        each("r", "", ";", false);
        each("s", "", ";", false);
        for (int letter = 0; letter < 256; letter++) {
            boolean begins = "bwfnchrs".indexOf(letter) >= 0;
            due(begins ? -1001 : -1000, tell(empty(), "" + (char) letter), "letter " + letter + " alone");
            due(begins ? -1003 : -1002, tell(empty(), "h;" + (char) letter), "letter " + letter + " behind h;");
        }
    }

    private static void lacking() {
        due(-1000, empty().town(), "at least one STATEMENT");
        for (String statement : new String[] {"b123;", "w111;", "f1;", "n1;", "c1;", "h;", "r;", "s;"}) {
            due(1, tell(empty(), statement), statement);
            for (int length = 1; length < statement.length(); length++) {
                String cut = statement.substring(0, length);
                due(-1000 - length, tell(empty(), cut), cut + " lacks something");
                due(-1003 - length, tell(empty(), "n0;" + cut), "n0;" + cut + " lacks something");
            }
        }
    }

    private static void fullTexts() {
        String most = "h;".repeat(47);
        due(48, tell(empty(), most + "h;"), "96 letters");
        due(32, tell(empty(), "n0;".repeat(32)), "96 letters");
        due(48, tell(empty(), most + "h;x"), "a 97th is no letter of it");
        due(-1095, tell(empty(), most + "h"), "95 letters lack one");
        due(-1096, tell(empty(), most + "n0"), "96 letters lack one");
        due(-1095, tell(empty(), most + "nx"), "the last letter fits nowhere");
        due(-2091, tell(empty(), "s;".repeat(44) + "n0;b005;"), "the last STATEMENT is out of range");
    }

    private static void outOfRange() {
        due(-2000, tell(empty(), "b005;"), "no sixth WIRE");
        due(2, tell(empty(), "s;b005;"), "the sixth WIRE");
        due(-2002, tell(empty(), "s;b006;"), "no seventh");
        due(-2004, tell(empty(), "s;s;b005;"), "taken down");
        due(2, tell(empty(), "s;w511;"), "the sixth WIRE");
        due(-2002, tell(empty(), "s;w512;"), "WEIGHT 12");
        due(-2002, tell(empty(), "s;w600;"), "no seventh");
        due(2, tell(empty(), "s;f5;"), "the sixth WIRE");
        due(-2002, tell(empty(), "s;f6;"), "no seventh");
        due(2, tell(empty(), "s;c5;"), "the sixth WIRE");
        due(-2002, tell(empty(), "s;c6;"), "no seventh");
        ClockOfSwallows hung = empty();
        hung.sixth(1);
        due(-2002, tell(hung, "s;b005;"), "s takes down what was hung ahead of the text");
        due(1, tell(hung, "b005;"), "the sixth WIRE still hangs");
        due(-2000, tell(empty(), "w012;b900;"), "the first of two");
        due(-2002, tell(empty(), "h;b900;w012;"), "the first of two");
        due(-1005, tell(empty(), "b900;x"), "kind 1 goes ahead");
        due(-1006, tell(empty(), "b900;h"), "kind 1 goes ahead: it lacks a ;");
    }

    private static void townRoom() {
        String eight = FOUR_ON_0 + "b001;".repeat(4);
        due(8, tell(empty(), eight), "8 BIRDS, 4 on a WIRE");
        due(-2040, tell(empty(), eight + "b002;"), "a ninth");
        due(-2020, tell(empty(), FOUR_ON_0 + "b000;"), "a fifth on a WIRE");
        ClockOfSwallows x = clock("b000;b000;b000;b001;b001;b001;b002;");
        due(-2005, tell(x, "b000;b003;"), "a ninth, by those who came ahead");
        due(1, tell(x, "b000;"), "an eighth, the fourth on its WIRE");
        due(-2000, tell(x, "b003;"), "a ninth");
        due(8, x.count(0), "8 BIRDS");
        due(6, tell(empty(), FOUR_ON_0 + "f1;b000;"), "those ahead have gone");
        due(-2023, tell(empty(), "b001;b001;b001;b000;f1;b001;"), "those ahead have come");
        due(7, tell(empty(), "s;" + "b005;".repeat(4) + "s;b003;"), "the sixth is taken down ahead");
    }

    private static void townHours() {
        ClockOfSwallows x = clock(hours(990));
        due(1, tell(x, "n9;"), "to HOUR 999");
        due(999, x.count(2), "HOUR 999");
        due(-2000, tell(x, "f0;"), "HOUR 1000");
        due(-2000, tell(x, "n1;"), "HOUR 1000");
        due(7, tell(x, "n0;h;r;c4;s;w311;b003;"), "these take no HOUR");
        due(999, x.count(2), "HOUR 999");
        x = clock(hours(991));
        due(-2000, tell(x, "n9;"), "HOUR 1000");
        due(991, x.count(2), "HOUR is as it was");
        due(-2006, tell(x, "n3;n4;n2;"), "the third passes 999");
        due(1, tell(x, "n7;"), "to HOUR 998");
        due(-2003, tell(x, "f0;f0;"), "the second is above");
        due(1, tell(x, "f0;"), "to HOUR 999");
    }

    private static void townComes() {
        ClockOfSwallows x = clock("b104;n1;s;h;w510;");
        seats(x, "n1 to 3, a HAWK to 5", 5);
        due(10, x.count(3), "SHOWN by the sixth's WEIGHT");
        due(1, x.count(2), "HOUR");
        due(6, x.count(1), "WIRES");
        x.hawk();
        due(-2000, tell(x, "f6;"), "a FAULT");
        due(0, x.count(5), "no letters then");
        due(-1000, x.town(), "no letters then");
        due(1, x.count(7), "a FAULT leaves what can be TAKEN BACK");
        due(1, tell(x, "n0;"), "0 HOURS");
        due(0, x.count(7), "without FAULT none can be TAKEN BACK");
        seats(clock("s;b005;b005;s;"), "the sixth is taken down", 4, 4);
        seats(clock("b002;b003;c2;c3;r;"), "one behind the other", 0, 0);
    }

    private static void p3() {
        eachLetter();
        lacking();
        fullTexts();
        outOfRange();
        townRoom();
        townHours();
        townComes();
    }

    // ---- 4 to 8: birds, wires, weights, the sixth ----

    private static void p4and5() {
        ClockOfSwallows x = empty();
        x.sixth(1);
        due(0, x.comes(0, 0, 0), "the first: the least of all");
        due(1, x.comes(5, 9, 5), "the greatest of all");
        due(2, x.comes(3, 4, 2), "in the midst");
        int[] told = {0, 0, 0, 5, 9, 5, 3, 4, 2};
        for (int i = 0; i < told.length; i++) {
            due(told[i], x.bird(i / 3, i % 3), "BIRD " + i / 3 + ", what " + i % 3);
        }
        for (int i = 3; i < 6; i++) {
            due(i, x.comes(0, 0, 5), "up to 4 on the sixth");
        }
        due(-3, x.comes(0, 0, 5), "a fifth on the sixth");
        due(6, x.comes(4, 7, 4), "a seventh");
        due(-1, x.bird(7, 0), "no eighth yet");
        due(7, x.comes(1, 8, 4), "an eighth");
        due(1, x.bird(7, 0), "its KIND");
        due(8, x.bird(7, 1), "its FIGURE");
        due(4, x.bird(7, 2), "its WIRE");
        due(-1, x.bird(8, 0), "no ninth");
        due(-6, x.comes(1, 8, 4), "a ninth");
        due(-6, x.comes(0, 0, 5), "a ninth, and no ROOM either");
        due(-1, x.comes(0, 0, 6), "a ninth, and no such WIRE either");
        due(8, x.count(0), "8 BIRDS");
        x = clock(FOUR_ON_0);
        due(-3, x.comes(0, 9, 0), "a fifth on a WIRE");
        due(-6, x.comes(0, 10, 0), "FIGURE ahead of ROOM");
        due(-4, x.comes(0, -1, 0), "FIGURE ahead of ROOM");
        due(-2, x.comes(6, -1, 0), "KIND ahead of ROOM");
        x.cat(0);
        due(4, x.comes(0, 0, 0), "there is ROOM when they have gone");
    }

    private static void p6and7() {
        ClockOfSwallows x = clock(FOUR_ON_0 + "s;b005;");
        due(4, x.wire(0, 1), "4 sit there");
        due(0, x.wire(1, 1), "nobody sits there");
        due(1, x.wire(5, 1), "one on the sixth");
        due(-1, x.wire(6, 0), "no seventh");
        for (int w = 0; w < 6; w++) {
            due(w, x.weight(w, 11), "its number at first");
            due(11, x.weight(w, 0), "it was 11");
            due(-6, x.weight(w, 12), "12");
            due(-4, x.weight(w, -1), "-1");
            due(0, x.weight(w, w), "it was 0");
        }
        due(-1, x.weight(6, 0), "no seventh");
        x.weight(5, 9);
        due(9, x.count(3), "SHOWN");
        x.sixth(0);
        due(-1, x.weight(5, 3), "it is taken down");
        due(-1, x.wire(5, 0), "it is taken down");
        x.sixth(1);
        due(9, x.wire(5, 0), "a WEIGHT stays with its WIRE");
        x.cat(0);
        due(9, x.weight(5, 9), "the WEIGHT that it has");
        due(0, x.count(7), "none can be TAKEN BACK all the same");
    }

    private static void shownAndWrong() {
        ClockOfSwallows x = clock("b001;w111;");
        due(11, x.count(3), "11 is 11");
        due(1, x.count(4), "11 is one from 0");
        x.comes(0, 0, 1);
        due(10, x.count(3), "22 is 10");
        x.weight(1, 6);
        due(0, x.count(3), "12 is 0");
        for (int i = 0; i < 6; i++) {
            x.comes(0, 0, i < 2 ? 1 : 2);
        }
        x.weight(1, 11);
        x.weight(2, 11);
        due(4, x.count(3), "88 is 4");
        x = empty();
        int[] wrong = {0, 1, 2, 3, 4, 5, 6, 5, 4, 3, 2, 1, 0, 1};
        for (int hour = 0; hour < wrong.length; hour++) {
            due(wrong[hour], x.count(4), "0 SHOWN at HOUR " + hour);
            x.feeds(-1);
        }
        x = clock("b000;w011;");
        int[] from11 = {1, 2, 3, 4, 5, 6, 5, 4, 3, 2, 1, 0, 1};
        for (int hour = 0; hour < from11.length; hour++) {
            due(from11[hour], x.count(4), "11 SHOWN at HOUR " + hour);
            x.feeds(-1);
        }
    }

    private static void p8() {
        ClockOfSwallows x = clock("s;b005;b004;b005;b004;b005;b004;b005;b003;");
        due(1, x.sixth(1), "it hangs already");
        seats(x, "nobody goes", 5, 4, 5, 4, 5, 4, 5, 3);
        due(1, x.sixth(0), "taken down");
        seats(x, "0 to 4, then 2, 4, 6 to 3", 4, 4, 3, 4, 3, 4, 3, 3);
        due(0, x.sixth(0), "it is down already");
        seats(x, "nobody goes", 4, 4, 3, 4, 3, 4, 3, 3);
        due(0, x.sixth(1), "hung again");
        seats(x, "nobody goes", 4, 4, 3, 4, 3, 4, 3, 3);
        due(0, x.wire(5, 1), "nobody is there");
        x = clock("s;b004;b004;b004;b004;b005;b005;b005;b005;");
        x.sixth(0);
        seats(x, "4 has no ROOM", 4, 4, 4, 4, 3, 3, 3, 3);
        x = clock("s;b005;b002;");
        x.sixth(0);
        seats(x, "none above: the nearest below", 4, 2);
    }

    // ---- 9: an HOUR, kind by kind ----

    /** Where one bird is behind an HOUR that begins at some HOUR, with FLIES on a WIRE or none. */
    private static void goes(int to, String bird, int hour, int flies) {
        ClockOfSwallows x = clock((hour > 0 ? hours(hour) : "") + "s;" + bird);
        x.feeds(flies);
        due(to, x.bird(0, 2), bird + " at HOUR " + hour + ", FLIES on " + flies);
    }

    private static void birdsAndOldOnes() {
        for (int own = 0; own <= 5; own++) {
            goes(own, "b09" + own + ";", 0, -1);
            goes(own, "b29" + own + ";", 0, -1);
            for (int flies = 0; flies <= 5; flies++) {
                int away = Math.abs(flies - own);
                int near = flies > own ? own + 1 : flies < own ? own - 1 : own;
                goes(near, "b00" + own + ";", 0, flies);
                goes(away == 1 ? own : near, "b20" + own + ";", 0, flies);
                goes(near, "b40" + own + ";", 0, flies);
            }
        }
    }

    private static void youngOnes() {
        for (int figure = 0; figure <= 9; figure++) {
            for (int hour : new int[] {0, 1, 2, 3, 996, 997, 998}) {
                boolean lower = (hour + figure) % 3 == 0;
                goes(lower ? 2 : 3, "b1" + figure + "3;", hour, -1);
                goes(lower ? 3 : 4, "b1" + figure + "3;", hour, 5);
                goes(0, "b1" + figure + "0;", hour, -1);
                goes(lower ? 0 : 1, "b1" + figure + "0;", hour, 2);
                goes(0, "b1" + figure + "1;", hour, 0);
            }
        }
        goes(2, "b104;", 0, 3);
        goes(3, "b104;", 0, 4);
        ClockOfSwallows x = clock("b104;b003;b003;b003;b003;");
        x.feeds(3);
        due(2, x.bird(0, 2), "it goes past a WIRE without ROOM");
        x = clock("b104;b002;b002;b002;b002;");
        x.feeds(3);
        due(4, x.bird(0, 2), "no ROOM one lower: it stays");
    }

    private static void sparrows() {
        for (int figure = 0; figure <= 9; figure++) {
            int lower = figure % 3 == 0 ? 1 : 0;
            for (int flies = 0; flies <= 5; flies++) {
                goes(flies <= figure ? flies : 1 - lower, "b3" + figure + "0;", 0, flies);
                goes(5 - flies <= figure ? flies : 4 - lower, "b3" + figure + "5;", 0, flies);
            }
            goes(5 - lower, "b3" + figure + "5;", 0, -1);
        }
        goes(0, "b300;", 0, -1);
        ClockOfSwallows x = clock("b332;b004;b004;b004;b004;");
        x.feeds(4);
        due(2, x.bird(0, 2), "no ROOM where the FLIES are: it stays");
        x = clock("b304;b304;n2;");
        x.feeds(4);
        seats(x, "FIGURE 0 is there", 4, 4);
    }

    private static void firstOnes() {
        seats(fed("b402;b402;", 3), "neither is alone", 2, 2);
        seats(fed("b402;b402;", 4), "the second is alone then, but they are two away", 3, 3);
        seats(fed("b402;b002;", 3), "one goes behind it", 2, 3);
        seats(fed("b002;b402;", 3), "one went ahead of it", 3, 3);
        seats(fed("b001;b402;", 3), "one came ahead of it", 2, 2);
        seats(fed("b402;b001;", 3), "one comes behind it", 3, 2);
        seats(fed("b402;", -1), "alone without FLIES", 2);
    }

    private static void keepers() {
        for (int figure = 0; figure <= 9; figure++) {
            int most = figure / 3;
            for (int own = 0; own <= 5; own++) {
                goes(Math.min(own, most), "b5" + figure + own + ";", 0, -1);
                goes(Math.min(own, most), "b5" + figure + own + ";", 0, own);
            }
            goes(Math.min(1, most), "b5" + figure + "0;", 0, 4);
            goes(0, "b5" + figure + "0;", 0, 1);
        }
        goes(2, "b564;", 0, 3);
        goes(2, "b563;", 0, 0);
        ClockOfSwallows x = clock("b590;");
        int[] way = {1, 2, 3, 3, 3};
        for (int to : way) {
            x.feeds(4);
            due(to, x.bird(0, 2), "up to 3");
        }
        x = clock("b564;b002;b002;b002;b002;");
        x.feeds(-1);
        due(4, x.bird(0, 2), "no ROOM on 2: it stays");
    }

    private static ClockOfSwallows fed(String town, int flies) {
        ClockOfSwallows x = clock(town);
        x.feeds(flies);
        return x;
    }

    private static void p9() {
        birdsAndOldOnes();
        youngOnes();
        sparrows();
        firstOnes();
        keepers();
        seats(fed("b002;b002;b003;b003;b003;", 3), "ROOM for one", 3, 2, 3, 3, 3);
        seats(fed("b002;b003;b003;b003;b003;", 4), "who goes behind it leaves no ROOM", 2, 4, 4, 4, 4);
        seats(fed("b003;b003;b003;b003;b002;", 4), "who goes ahead of it leaves ROOM", 4, 4, 4, 4, 3);
        ClockOfSwallows x = clock(hours(998) + "b001;w011;w100;");
        due(11, x.feeds(0), "HOUR 998 has an HOUR more");
        due(999, x.count(2), "HOUR 999");
        due(-6, x.feeds(0), "HOUR 999 has none");
        due(-1, x.feeds(-2), "no WIRE ahead of HOUR 999");
        due(999, x.count(2), "HOUR 999");
        due(1, x.count(7), "the refused ones can't be TAKEN BACK");
    }

    // ---- 10 to 12: cats, hawks, rain ----

    private static void p10() {
        ClockOfSwallows x = clock("b000;b001;b001;b001;b001;");
        due(1, x.cat(0), "1 has no ROOM");
        seats(x, "to 2", 2, 1, 1, 1, 1);
        x = clock("b000;b001;b001;b001;b001;b002;b002;b002;");
        due(1, x.cat(0), "2 has ROOM for one");
        seats(x, "to 2", 2, 1, 1, 1, 1, 2, 2, 2);
        x = clock("b001;b001;b001;b001;b002;b002;b002;");
        due(4, x.cat(1), "four go");
        seats(x, "one to 2, three to 3", 2, 3, 3, 3, 2, 2, 2);
        x = clock("b004;b004;b003;b003;b003;b003;b002;b002;");
        due(2, x.cat(4), "none above, 3 has no ROOM");
        seats(x, "down to 2", 2, 2, 3, 3, 3, 3, 2, 2);
        x = clock("b003;b003;b004;b004;b004;b002;b002;b002;");
        due(2, x.cat(3), "ROOM for one above");
        seats(x, "one up, one down", 4, 2, 4, 4, 4, 2, 2, 2);
        x = clock("s;b004;b005;");
        due(1, x.cat(4), "to the sixth");
        due(2, x.cat(5), "down from the sixth");
        seats(x, "4", 4, 4);
        due(0, x.cat(5), "nobody there");
        due(3, x.count(7), "that can be TAKEN BACK, too");
        due(0, empty().cat(4), "no BIRDS");
        x = clock(hours(999) + "b004;");
        due(1, x.cat(4), "HOUR 999");
        due(1, x.rain(), "HOUR 999");
        due(1, x.hawk(), "HOUR 999");
        due(999, x.count(2), "they take no HOUR");
    }

    private static void p11and12() {
        due(0, empty().hawk(), "no BIRDS");
        due(0, empty().rain(), "no BIRDS");
        ClockOfSwallows x = clock("b000;b001;b002;b003;b004;b004;b004;b004;");
        due(3, x.hawk(), "4 has no ROOM: they go to 3");
        seats(x, "3 gets full", 3, 3, 3, 3, 4, 4, 4, 4);
        due(0, x.hawk(), "each leaves its place, and comes back");
        due(8, x.rain(), "all go");
        seats(x, "by numbers", 0, 0, 0, 0, 1, 1, 1, 1);
        due(0, x.rain(), "each leaves its place, and comes back");
        x = clock("b004;b004;b004;b004;b001;b000;");
        due(4, x.rain(), "0 has ROOM for three, the fourth goes to 1");
        seats(x, "0 gets full, then 1", 0, 0, 0, 1, 1, 0);
        x = clock("b003;b003;b003;b003;b002;");
        due(5, x.hawk(), "4 gets full, then 3 is the highest with ROOM");
        seats(x, "four to 4", 4, 4, 4, 4, 3);
    }

    // ---- 13: taken back ----

    private static void p13() {
        ClockOfSwallows x = clock("b000;b104;b592;");
        for (int i = 0; i < 21; i++) {
            x.feeds(i % 5);
        }
        due(8, x.count(7), "8 at most");
        for (int i = 20; i >= 13; i--) {
            due(i, x.back(), "the latest first");
        }
        due(0, x.count(7), "none");
        due(-3, x.back(), "a ninth");
        due(13, x.count(2), "HOUR is as it was");
        ClockOfSwallows y = clock("b000;b104;b592;");
        for (int i = 0; i < 13; i++) {
            y.feeds(i % 5);
        }
        seats(x, "as they were", y.bird(0, 2), y.bird(1, 2), y.bird(2, 2));
        x.cat(1);
        x.hawk();
        x.rain();
        due(13, x.back(), "RAIN");
        due(13, x.back(), "a HAWK");
        x.feeds(-1);
        due(2, x.count(7), "a CAT and an HOUR");
        due(13, x.back(), "the HOUR");
        due(13, x.back(), "the CAT");
        due(-3, x.back(), "none");
        x = clock(hours(998));
        x.feeds(-1);
        due(998, x.back(), "999 is TAKEN BACK");
        due(0, x.feeds(-1), "and comes again");
        due(998, x.back(), "999 is TAKEN BACK");
    }

    private static void leavesNone(String told, java.util.function.ToIntFunction<ClockOfSwallows> call, int left) {
        ClockOfSwallows x = clock("b004;");
        x.image();
        x.rain();
        x.feed('h');
        x.feed(';');
        call.applyAsInt(x);
        due(left, x.count(7), told);
    }

    private static void p13left() {
        leavesNone("weight", x -> x.weight(1, 1), 0);
        leavesNone("weight refused", x -> x.weight(1, 12), 1);
        leavesNone("sixth", x -> x.sixth(0), 0);
        leavesNone("sixth refused", x -> x.sixth(2), 1);
        leavesNone("comes", x -> x.comes(0, 0, 0), 0);
        leavesNone("comes refused", x -> x.comes(0, 10, 0), 1);
        leavesNone("a TOWN", x -> x.town(), 0);
        leavesNone("a TOWN with a FAULT", x -> tell(x, "x"), 1);
        leavesNone("restore", x -> x.restore(), 0);
        leavesNone("an image", x -> x.image(), 1);
        leavesNone("a look", x -> x.lots(20, 1, 0), 1);
        leavesNone("judge", x -> x.judge(), 1);
        leavesNone("an HOUR", x -> x.feeds(-1), 2);
        leavesNone("an HOUR refused", x -> x.feeds(5), 1);
        leavesNone("a CAT where nobody is", x -> x.cat(3), 2);
        leavesNone("a CAT refused", x -> x.cat(5), 1);
        leavesNone("back", x -> x.back(), 0);
    }

    // ---- 45 to 47: the ROW ----

    private static void p45to47() {
        ClockOfSwallows x = empty();
        due(1, x.row(0), "0");
        for (int i = 2; i <= 11; i++) {
            due(i, x.row(0), "more");
        }
        due(12, x.row(99), "the 12th");
        due(-6, x.row(99), "a 13th");
        due(-6, x.row(100), "a 13th, and above");
        due(-4, x.row(-1), "a 13th, and below");
        due(12, x.count(6), "12");
        due(11, x.judge(), "the 12th is the first that is not so");
        due(0, x.count(6), "the ROW has none then");
        due(-9, x.judge(), "a ROW without numbers");
        due(0, x.clear(), "it had none");
        rowAsShown(x, 12);
        due(-9, x.judge(), "all are so");
        due(0, x.count(6), "the ROW has none then");
        rowAsShown(x, 12);
        due(12, x.clear(), "it had 12");
        due(0, x.count(6), "the ROW has none then");
        due(1, x.row(7), "the first again");
        due(0, x.judge(), "the first is not so");
        x.row(12);
        due(0, x.judge(), "12 is SHOWN never");
        x = clock("b102;" + hours(998));
        rowAsShown(x, 12);
        due(-9, x.judge(), "behind HOUR 999, too");
    }

    // ---- 49 to 51: image, counts ----

    private static void p49and50() {
        ClockOfSwallows x = empty();
        due(-3, x.restore(), "there is none");
        due(0, x.image(), "of no BIRDS");
        for (int i = 0; i < 8; i++) {
            due(i, x.comes(5, i, i / 2), "BIRDS");
        }
        x.sixth(1);
        x.weight(5, 11);
        x.weight(0, 3);
        tell(x, "n9;n9;");
        due(0, x.restore(), "HOUR");
        due(0, x.count(0), "no BIRDS again");
        due(5, x.count(1), "five WIRES again");
        due(0, x.wire(0, 0), "WEIGHT 0 again");
        due(0, x.comes(2, 3, 0), "the first BIRD again");
        due(2, x.bird(0, 0), "its KIND");
        x = clock(hours(999) + "s;b345;b101;w509;");
        due(999, x.image(), "HOUR 999");
        x.sixth(0);
        x.rain();
        due(999, x.restore(), "HOUR 999");
        due(6, x.count(1), "the sixth is hung again");
        seats(x, "where they were", 5, 1);
        due(9, x.wire(5, 0), "the sixth's WEIGHT");
        due(3, x.bird(0, 0), "KIND");
        due(4, x.bird(0, 1), "FIGURE");
        due(-3, x.back(), "none can be TAKEN BACK");
        x.rain();
        due(999, x.restore(), "the image stays");
        seats(x, "where they were", 5, 1);
    }

    private static void p51() {
        ClockOfSwallows x = clock("s;b005;" + hours(999));
        int[] is = {1, 6, 999, 5, 2, 0, 0, 0, -9, -9, -9, 0, 0, 0, 0, 0, 0, -9};
        for (int what = 0; what < is.length; what++) {
            due(is[what], x.count(what), "count " + what);
        }
        due(-9, x.count(-1), "-1");
        for (int i = 1; i <= 3; i++) {
            x.bird(8, 0);
            due(i, x.count(11), "-1");
            x.spread(3);
            due(i, x.count(12), "-2");
            x.restore();
            due(i, x.count(13), "-3");
            x.near(-1);
            due(i, x.count(14), "-4");
            due(0, x.count(15), "-5 there is none");
            x.near(12);
            due(i, x.count(16), "-6");
        }
        x.firstWrong();
        x.catWorth();
        x.count(99);
        x.town();
        int[] still = {3, 3, 3, 3, 0, 3};
        for (int i = 0; i < still.length; i++) {
            due(still[i], x.count(11 + i), "-9 and FAULTS are no REFUSALS");
        }
    }

    public static void main(String[] args) {
        ask("1", ClockEdgesTest::p1);
        ask("2", ClockEdgesTest::p2);
        ask("3", ClockEdgesTest::p3);
        ask("4, 5", ClockEdgesTest::p4and5);
        ask("6, 7", ClockEdgesTest::p6and7);
        ask("6, 51: SHOWN, WRONG", ClockEdgesTest::shownAndWrong);
        ask("8", ClockEdgesTest::p8);
        ask("9", ClockEdgesTest::p9);
        ask("10", ClockEdgesTest::p10);
        ask("11, 12", ClockEdgesTest::p11and12);
        ask("13", ClockEdgesTest::p13);
        ask("13: none is left", ClockEdgesTest::p13left);
        ask("45, 46, 47", ClockEdgesTest::p45to47);
        ask("49, 50", ClockEdgesTest::p49and50);
        ask("51", ClockEdgesTest::p51);
        end();
    }
}
