/** Promises 12 to 15 and 21 to 24: what is grown when, treadings, turns, who is needy, what is sold. */
public final class ThoughtTest {
    private static final Check CHECK = new Check("ThoughtTest");

    public static void main(String[] args) {
        behind();
        thistles();
        firstThistle();
        longest();
        treadings();
        turns();
        needy();
        sold();
        pastTheLastDay();
        CHECK.finish();
    }

    private static void behind() {
        RugWasField x = Check.of("pt00011;pm80111;g02025;pp00311;r2;g03034;");
        int[] turf = {0, 0, 1, 2, 3, 3, 5, 5, 6, 7, 8, 8, 9, 9};
        int[] meadow = {0, 2, 5, 8, 9, 9};
        for (int n = 0; n < turf.length; n++) {
            CHECK.due("behind(0, " + n + ")", x.behind(0, n), turf[n]);
        }
        for (int n = 0; n < meadow.length; n++) {
            CHECK.due("behind(1, " + n + ")", x.behind(1, n), meadow[n]);
        }
        CHECK.due("of none", x.behind(2, 99), 5);
        CHECK.due("of one rolled up", x.behind(3, 99), 4);
        CHECK.due("nothing goes by", x.count(1) + x.yard(0, 0), 0);
        CHECK.due("behind(36, -1)", x.behind(36, -1), -1);
        CHECK.due("behind(-1, 100)", x.behind(-1, 100), -1);
        CHECK.due("behind(0, -1)", x.behind(0, -1), -4);
        CHECK.due("behind(0, 100)", x.behind(0, 100), -6);
    }

    private static void thistles() {
        RugWasField x = Check.of("pm80022;pt01422;ph03511;pp01211;r3;g05059;");
        int[][] wants = {{0, 1, 33}, {3, 1, 33}, {4, 5, 29}, {11, 5, 29}, {12, 9, 25}, {99, 9, 25}};
        for (int[] want : wants) {
            CHECK.due("thistles(" + want[0] + ", 0)", x.thistles(want[0], 0), want[1]);
            CHECK.due("thistles(" + want[0] + ", 1)", x.thistles(want[0], 1), want[2]);
        }
        CHECK.due("thistles(-1, 2)", x.thistles(-1, 2), -4);
        CHECK.due("thistles(100, 2)", x.thistles(100, 2), -6);
        CHECK.due("thistles(0, 2)", x.thistles(0, 2), -2);
        CHECK.due("thistles(0, -1)", x.thistles(0, -1), -2);
    }

    private static void firstThistle() {
        RugWasField x = Check.of("pp00011;pt00022;pf90311;ph00411;pm00511;pp00011;g04048;");
        CHECK.due("piece", x.firstThistle(0), 27);
        CHECK.due("turf", x.firstThistle(1), 12);
        CHECK.due("field", x.firstThistle(2), 14);
        CHECK.due("hole", x.firstThistle(3), -9);
        CHECK.due("one without yards", x.firstThistle(5), -9);
        x.makes(0, 9);
        CHECK.due("thistle now", x.firstThistle(0), 0);
        CHECK.due("thistle of another", x.firstThistle(1), 12);
        x.makes(7, 8);
        CHECK.due("one of its yards is enough", x.firstThistle(1), 2);
        x.rolls(1);
        CHECK.due("rolled up", x.firstThistle(1), -9);
        x.makes(7, 9);
        CHECK.due("rolled up, thistle now", x.firstThistle(1), 0);
        CHECK.due("firstThistle(6)", x.firstThistle(6), -1);
        CHECK.due("firstThistle(-1)", x.firstThistle(-1), -1);
    }

    private static void longest() {
        CHECK.due("without pieces", new RugWasField().longest(), -9);
        CHECK.due("latest", Check.of("pt00011;pp00111;pm90211;").longest(), 1);
        CHECK.due("of several the least", Check.of("pt00011;pp00111;pp00311;").longest(), 1);
        CHECK.due("never is latest of all", Check.of("pt00011;pp00111;ph00311;ph00411;").longest(), 2);
        CHECK.due("all now", Check.of("pt00011;pp00111;g00359;").longest(), 0);
        CHECK.due("one without yards", Check.of("pp00011;pp00011;").longest(), 1);
        CHECK.due("one rolled up", Check.of("pp00011;pp00111;r1;").longest(), 1);
    }

    private static void treadings() {
        RugWasField x = Check.of("pm80022;pt01422;ph03511;pt00022;");
        int[][] wants = {{0, 0, -9}, {3, 0, -9}, {4, 1, 4}, {5, 1, 4}, {6, 2, 4}, {40, 19, 4}};
        for (int[] want : wants) {
            CHECK.due("treadings(0, " + want[0] + ", 0)", x.treadings(0, want[0], 0), want[1]);
            CHECK.due("treadings(0, " + want[0] + ", 1)", x.treadings(0, want[0], 1), want[2]);
        }
        CHECK.due("turf, 11 days", x.treadings(1, 11, 0), 0);
        CHECK.due("turf, 12 days", x.treadings(1, 12, 0), 1);
        CHECK.due("turf, the day", x.treadings(1, 12, 1), 12);
        // A turf must be trod on days 12, 21, 30 and 39 at the latest.
        int[][] turf = {{20, 1}, {21, 2}, {29, 2}, {30, 3}, {38, 3}, {39, 4}, {40, 4}};
        for (int[] want : turf) {
            CHECK.due("treadings(1, " + want[0] + ", 0)", x.treadings(1, want[0], 0), want[1]);
        }
        CHECK.due("a hole", x.treadings(2, 40, 0), 0);
        CHECK.due("a hole", x.treadings(2, 40, 1), -9);
        CHECK.due("one without yards", x.treadings(3, 40, 0), 0);
        CHECK.due("one without yards", x.treadings(3, 40, 1), -9);
        x.makes(35, 9);
        CHECK.due("a thistle in a hole, no days", x.treadings(2, 0, 0), 0);
        CHECK.due("a thistle in a hole", x.treadings(2, 40, 0), 1);
        CHECK.due("a thistle in a hole", x.treadings(2, 40, 1), 1);
        x.makes(21, 8);
        CHECK.due("the most grown tells", x.treadings(1, 40, 1), 2);
        x.days(1);
        CHECK.due("days count from now", x.treadings(1, 40, 1), 1);
        CHECK.due("trod on the first day", x.treadings(1, 1, 0), 1);
        // Day 1 is now: a meadow with 2 has 5 and 8 behind days 2 and 3, so day 4 is the third from now.
        CHECK.due("days count from now", x.treadings(0, 40, 1), 3);
        CHECK.due("days count from now", x.treadings(0, 2, 0), 0);
        CHECK.due("days count from now", x.treadings(0, 4, 0), 1);
        CHECK.due("days count from now", x.treadings(0, 5, 0), 2);
        // From day 4 on a turf must be trod on days 15 and 24.
        RugWasField later = Check.of("d04;pt00011;");
        CHECK.due("from day 4", later.treadings(0, 40, 1), 11);
        int[][] wanted = {{10, 0}, {11, 1}, {19, 1}, {20, 2}};
        for (int[] want : wanted) {
            CHECK.due("from day 4, " + want[0], later.treadings(0, want[0], 0), want[1]);
        }
        CHECK.due("treadings(4, -1, 0)", x.treadings(4, -1, 0), -1);
        CHECK.due("treadings(0, -1, 2)", x.treadings(0, -1, 2), -4);
        CHECK.due("treadings(0, 41, 2)", x.treadings(0, 41, 2), -6);
        x.rolls(0);
        CHECK.due("treadings(0, 41, 0) rolled up", x.treadings(0, 41, 0), -6);
        CHECK.due("treadings(0, 40, 2) rolled up", x.treadings(0, 40, 2), -2);
        CHECK.due("treadings(0, 0, 0) rolled up", x.treadings(0, 0, 0), -3);
        CHECK.due("treadings(0, 0, 1) rolled up", x.treadings(0, 0, 1), -3);
    }

    private static void turns() {
        RugWasField x = Check.of("pm80011;pm80111;pm80211;r1;g00009;g02029;");
        // Day 1 treads piece 0, day 2 piece 2, day 3 piece 0 again: 1 is rolled up.
        CHECK.due("turns(0)", x.turns(0), 2);
        CHECK.due("turns(1)", x.turns(1), 1);
        CHECK.due("turns(2)", x.turns(2), 0);
        CHECK.due("turns(99)", x.turns(99), 0);
        x.makes(1, 9);
        CHECK.due("one rolled up is not trod", x.turns(99), 1);
        x.rolls(0);
        x.rolls(2);
        CHECK.due("all rolled up", x.turns(99), 3);
        CHECK.due("without pieces", new RugWasField().turns(99), 0);
        RugWasField pair = Check.of("pm80011;pm80111;");
        for (int n = 0; n <= 99; n++) {
            CHECK.due("every other day is enough for a meadow", pair.turns(n), 0);
        }
        RugWasField last = Check.of("pm80011;pm80111;pm80211;r0;r1;");
        for (int n = 0; n <= 99; n++) {
            CHECK.due("one that lies alone is trod each day", last.turns(n), 0);
        }
        RugWasField holes = Check.of("ph00011;pp00111;g00019;");
        CHECK.due("a hole has its turn, too", holes.turns(1), 1);
        CHECK.due("a hole has its turn, too", holes.turns(2), 0);
        RugWasField many = Check.of("pm80011;pm80111;pm80211;pm80311;pm80411;pm80511;");
        // Behind 4 days those trod on days 1 and 2 are thistles again, the last two are so still.
        CHECK.due("six by turns, 3 days", many.turns(3), 0);
        CHECK.due("six by turns, 4 days", many.turns(4), 4);
        CHECK.due("turns(-1)", x.turns(-1), -4);
        CHECK.due("turns(100)", x.turns(100), -6);
    }

    private static void needy() {
        RugWasField x = Check.of("pt00022;pt01422;pp03511;g00018;g14158;g20208;");
        CHECK.due("needy(0)", x.needy(0), -9);
        CHECK.due("needy(2)", x.needy(2), 1);
        CHECK.due("needy(11)", x.needy(11), 1);
        CHECK.due("needy(12)", x.needy(12), -9);
        x.makes(20, 0);
        CHECK.due("of several the least", x.needy(2), 0);
        x.makes(14, 9);
        CHECK.due("a thistle now", x.needy(0), 1);
        x.rolls(1);
        CHECK.due("one rolled up can not be trod", x.needy(0), -9);
        CHECK.due("one rolled up can not be trod", x.needy(2), 0);
        RugWasField six = Check.of("pp00011;pp00111;pp00211;pp00311;pp00411;pp00511;g05059;");
        CHECK.due("the last of six", six.needy(0), 5);
        CHECK.due("the last of six", six.longest() + six.sold(0, 0), 0);
        CHECK.due("the first turn of six", six.turns(5), 1);
        CHECK.due("the last turn of six", six.turns(6), 0);
        CHECK.due("needy(-1)", x.needy(-1), -4);
        CHECK.due("needy(100)", x.needy(100), -6);
        CHECK.due("nothing is trod", x.yard(0, 0), 8);
    }

    private static void sold() {
        RugWasField x = Check.of("pp00022;pm80022;pt01411;g35355;");
        // Without 0 the meadow under it grows; without 1 nothing is otherwise.
        CHECK.due("sold(0, 0)", x.sold(0, 0), 0);
        CHECK.due("sold(0, 1)", x.sold(0, 1), 5);
        CHECK.due("sold(3, 0)", x.sold(3, 0), 0);
        CHECK.due("sold(3, 1)", x.sold(3, 1), 5 + 4 * 8 + 2);
        x.rolls(1);
        CHECK.due("under it one rolled up", x.sold(3, 0), 1);
        CHECK.due("under it one rolled up", x.sold(3, 1), 5 + 4 + 2);
        CHECK.due("pieces as ahead", x.count(0) + x.piece(0, 6), 3 + 4);
        CHECK.due("what is nobody's grows not", Check.of("pm80066;g00015;").sold(9, 1), 10);
        CHECK.due("the lesser loss", Check.of("pm80022;pt00411;").sold(9, 0), 1);
        CHECK.due("the lesser loss", Check.of("pm80022;pt00411;").sold(9, 1), 36);
        CHECK.due("of several the least", Check.of("pm80022;pt00411;pt00511;").sold(9, 0), 1);
        CHECK.due("without pieces", new RugWasField().sold(9, 0), -9);
        CHECK.due("without pieces", new RugWasField().sold(9, 1), -9);
        CHECK.due("sold(-1, 2)", x.sold(-1, 2), -4);
        CHECK.due("sold(100, 2)", x.sold(100, 2), -6);
        CHECK.due("sold(0, 2)", x.sold(0, 2), -2);
        CHECK.due("sold(0, -1)", x.sold(0, -1), -2);
    }

    private static void pastTheLastDay() {
        RugWasField x = new RugWasField();
        Check.tell(x, "d60;".repeat(16) + "d39;");
        Check.tell(x, "pt00011;");
        // Days 1000, 1002, 1004, .. are even; three divides 1002, 1005, 1008: 9 on day 1010.
        CHECK.due("behind(0, 1)", x.behind(0, 1), 1);
        CHECK.due("behind(0, 3)", x.behind(0, 3), 3);
        CHECK.due("behind(0, 99)", x.behind(0, 99), 9);
        CHECK.due("firstThistle(0)", x.firstThistle(0), 11);
        CHECK.due("treadings(0, 40, 1)", x.treadings(0, 40, 1), 11);
        CHECK.due("days(1)", x.days(1), -6);
    }
}
