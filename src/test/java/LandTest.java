/** Promises 4 to 11: yards, pieces, how they grow, and what changes them. */
public final class LandTest {
    private static final Check CHECK = new Check("LandTest");

    public static void main(String[] args) {
        yards();
        pieces();
        growth();
        making();
        rolling();
        treading();
        turning();
        daysGo();
        CHECK.finish();
    }

    private static void yards() {
        RugWasField x = Check.of("pp00722;pt00133;ph03511;g03039;g14148;");
        int[][] wants = {{0, 0, -9, 1}, {1, 0, 1, 1}, {3, 9, 1, 0}, {7, 0, 0, 1}, {14, 8, 0, 1}, {15, 0, 1, 1},
            {16, 0, -9, 1}, {34, 0, -9, 1}, {35, 0, 2, 0}};
        for (int[] want : wants) {
            for (int what = 0; what <= 2; what++) {
                CHECK.due("yard(" + want[0] + ", " + what + ")", x.yard(want[0], what), want[what + 1]);
            }
        }
        x.rolls(0);
        CHECK.due("rolled up: belongs as ahead", x.yard(7, 1), 0);
        CHECK.due("rolled up: not open", x.yard(7, 2), 0);
        CHECK.due("rolled up: the one under it is open elsewhere", x.yard(15, 2), 1);
        CHECK.due("yard(-1, 0)", x.yard(-1, 0), -1);
        CHECK.due("yard(36, 3)", x.yard(36, 3), -1);
        CHECK.due("yard(0, 3)", x.yard(0, 3), -2);
        CHECK.due("yard(0, -1)", x.yard(0, -1), -2);
    }

    private static void pieces() {
        RugWasField x = Check.of("pc40823;pf90022;r1;");
        int[] first = {3, 4, 8, 2, 3, 0, 6};
        int[] second = {4, 9, 0, 2, 2, 1, 4};
        for (int what = 0; what <= 6; what++) {
            CHECK.due("piece(0, " + what + ")", x.piece(0, what), first[what]);
            CHECK.due("piece(1, " + what + ")", x.piece(1, what), second[what]);
        }
        Check.tell(x, "pm00033;");
        CHECK.due("yards that belong to one under others", x.piece(2, 6), 9 - 4 - 2);
        CHECK.due("piece(3, 0)", x.piece(3, 0), -1);
        CHECK.due("piece(-1, 9)", x.piece(-1, 9), -1);
        CHECK.due("piece(2, 7)", x.piece(2, 7), -2);
        CHECK.due("piece(2, -1)", x.piece(2, -1), -2);
    }

    private static void growth() {
        RugWasField x = Check.of("pp90011;pt90011;pm90011;pc90011;pf90011;ph90011;");
        int[] days = {1, 2, 3, 4, 6, 7, 14, 21, 42, 998, 999};
        int[][] wants = {{0, 0, 1, 0, 1, 0, 0, 1, 1, 0, 1}, {0, 1, 1, 1, 2, 0, 1, 1, 2, 1, 1},
            {2, 3, 3, 3, 4, 2, 3, 3, 4, 3, 3}, {1, 2, 2, 2, 2, 1, 2, 2, 2, 2, 2},
            {0, 0, 1, 0, 1, 3, 3, 4, 4, 0, 1}, {0, 0, 0, 0, 0, 0, 0, 0, 0, 0, 0}};
        for (int kind = 0; kind < 6; kind++) {
            for (int i = 0; i < days.length; i++) {
                CHECK.due("grows(" + kind + ", " + days[i] + ")", x.grows(kind, days[i]), wants[kind][i]);
            }
        }
        for (int figure = 0; figure <= 9; figure++) {
            x.turn(2, 2, figure);
            x.turn(3, 3, figure);
            x.turn(4, 4, figure);
            CHECK.due("meadow of " + figure, x.grows(2, 1), figure / 4);
            CHECK.due("common of " + figure, x.grows(3, 6), (figure / 4 + 3) / 2);
            CHECK.due("common of " + figure, x.grows(3, 1), (figure / 4 + 1) / 2);
            CHECK.due("field of " + figure, x.grows(4, 7), figure / 3);
        }
        x.rolls(1);
        CHECK.due("as if not rolled up", x.grows(1, 6), 2);
        CHECK.due("grows(6, 0)", x.grows(6, 0), -1);
        CHECK.due("grows(-1, 1)", x.grows(-1, 1), -1);
        CHECK.due("grows(0, 0)", x.grows(0, 0), -4);
        CHECK.due("grows(0, -7)", x.grows(0, -7), -4);
        CHECK.due("grows(0, 1000)", x.grows(0, 1000), -6);
    }

    private static void making() {
        RugWasField x = new RugWasField();
        CHECK.due("makes(35, 9)", x.makes(35, 9), 0);
        CHECK.due("makes(35, 4)", x.makes(35, 4), 9);
        CHECK.due("makes(35, 10)", x.makes(35, 10), -6);
        CHECK.due("makes(35, -1)", x.makes(35, -1), -4);
        CHECK.due("makes(36, -1)", x.makes(36, -1), -1);
        CHECK.due("makes(-1, 10)", x.makes(-1, 10), -1);
        CHECK.due("as made", x.yard(35, 0), 4);
    }

    private static void rolling() {
        RugWasField x = Check.of("pt00022;pt01422;");
        CHECK.due("rolls(1)", x.rolls(1), 1);
        CHECK.due("bits", x.count(5), 2);
        x.days(2);
        CHECK.due("rolled up grows not", x.yard(14, 0), 0);
        CHECK.due("the other grows", x.yard(0, 0), 1);
        CHECK.due("rolls(1) again", x.rolls(1), 0);
        x.days(2);
        CHECK.due("it grows again", x.yard(14, 0), 2);
        CHECK.due("rolls(2)", x.rolls(2), -1);
        CHECK.due("rolls(-1)", x.rolls(-1), -1);
    }

    private static void treading() {
        RugWasField x = Check.of("pp00022;pp00733;g00355;");
        CHECK.due("treads(1)", x.treads(1), 8 * 5);
        CHECK.due("what belongs to the other", x.yard(7, 0), 5);
        CHECK.due("what belongs to it", x.yard(8, 0), 0);
        CHECK.due("what belongs to none", x.yard(35, 0), 5);
        CHECK.due("treads(1) again", x.treads(1), 0);
        x.rolls(0);
        CHECK.due("treads(0) rolled up", x.treads(0), -3);
        CHECK.due("treads(2)", x.treads(2), -1);
        CHECK.due("treads(-1)", x.treads(-1), -1);
        CHECK.due("nothing is trod", x.yard(0, 0), 5);
    }

    private static void turning() {
        RugWasField x = Check.of("pf70022;");
        CHECK.due("turn(0, 5, 9)", x.turn(0, 5, 9), 47);
        CHECK.due("turn(0, 0, 0)", x.turn(0, 0, 0), 59);
        CHECK.due("turn(0, 2, 3)", x.turn(0, 2, 3), 0);
        CHECK.due("turn(1, 6, -1)", x.turn(1, 6, -1), -1);
        CHECK.due("turn(0, 6, -1)", x.turn(0, 6, -1), -2);
        CHECK.due("turn(0, -1, 10)", x.turn(0, -1, 10), -2);
        CHECK.due("turn(0, 5, -1)", x.turn(0, 5, -1), -4);
        CHECK.due("turn(0, 5, 10)", x.turn(0, 5, 10), -6);
        CHECK.due("kind as ahead", x.piece(0, 0), 2);
        CHECK.due("figure as ahead", x.piece(0, 1), 3);
    }

    private static void daysGo() {
        RugWasField x = Check.of("pm80022;pp01411;g35359;");
        CHECK.due("days(3)", x.days(3), 1);
        CHECK.due("meadow's day 3", x.yard(0, 0), 8);
        CHECK.due("piece's day 3", x.yard(14, 0), 1);
        CHECK.due("days(1)", x.days(1), 5);
        CHECK.due("9 at most", x.yard(0, 0), 9);
        CHECK.due("none's", x.yard(2, 0), 0);
        CHECK.due("DAY", x.count(1), 4);
        CHECK.due("days(0)", x.days(0), -4);
        CHECK.due("days(-1)", x.days(-1), -4);
        CHECK.due("days(61)", x.days(61), -6);
        for (int i = 0; i < 16; i++) {
            CHECK.due("days(60)", x.days(60), 6);
        }
        CHECK.due("DAY", x.count(1), 964);
        CHECK.due("days(36)", x.days(36), -6);
        CHECK.due("days(35)", x.days(35), 6);
        CHECK.due("DAY", x.count(1), 999);
        CHECK.due("days(1)", x.days(1), -6);
        CHECK.due("days(0) at the end", x.days(0), -4);
        CHECK.due("DAY", x.count(1), 999);
    }
}
