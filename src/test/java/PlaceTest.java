/** Promises 25 to 28: hay, pieces that share yards, edges, rain. */
public final class PlaceTest {
    private static final Check CHECK = new Check("PlaceTest");

    public static void main(String[] args) {
        hay();
        same();
        edge();
        rain();
        CHECK.finish();
    }

    private static void hay() {
        RugWasField x = Check.of("pp00022;pp00733;g00352;g08085;");
        CHECK.due("hay(0)", x.hay(0), 8);
        CHECK.due("hay(1)", x.hay(1), 7 * 2 + 5);
        x.rolls(1);
        CHECK.due("hay of one rolled up", x.hay(1), 19);
        CHECK.due("hay(2)", x.hay(2), -1);
        CHECK.due("hay(-1)", x.hay(-1), -1);
        CHECK.due("hay of one without yards", Check.of("pp00011;pp00011;g00009;").hay(1), 0);
    }

    private static void same() {
        CHECK.due("without pieces", new RugWasField().same(0), 0);
        CHECK.due("without pieces", new RugWasField().same(1), -9);
        RugWasField x = Check.of("pp02822;pp00022;pp00733;pp01422;pp00211;");
        CHECK.due("same(0)", x.same(0), 2);
        CHECK.due("same(1)", x.same(1), 12);
        Check.tell(x, "pp03511;");
        CHECK.due("same(0)", x.same(0), 3);
        CHECK.due("the first by the lesser", x.same(1), 5);
        x.rolls(0);
        CHECK.due("rolled up or not", x.same(1), 5);
        CHECK.due("all twos", Check.of("pp00011;".repeat(6)).same(0), 15);
        CHECK.due("side by side is not the same", Check.of("pp00023;pp00323;pp01223;").same(0), 0);
        CHECK.due("same(2)", x.same(2), -2);
        CHECK.due("same(-1)", x.same(-1), -2);
    }

    private static void edge() {
        CHECK.due("all the land", Check.of("pp00066;").edge(0), 0);
        CHECK.due("the first yard", Check.of("pp00011;").edge(0), 1);
        CHECK.due("the last yard", Check.of("pp03511;").edge(0), 1);
        CHECK.due("in the midst", Check.of("pp00744;").edge(0), 12);
        CHECK.due("a corner", Check.of("pp00033;").edge(0), 5);
        RugWasField x = Check.of("pp01422;pp00066;pp00011;");
        CHECK.due("around another", x.edge(1), 8);
        CHECK.due("within another", x.edge(0), 4);
        CHECK.due("one without yards", x.edge(2), 0);
        CHECK.due("edge(3)", x.edge(3), -1);
        CHECK.due("edge(-1)", x.edge(-1), -1);
    }

    private static void rain(RugWasField x, int yard, int n, int t, long above, long below) {
        String call = "rain(" + yard + ", " + n + ", " + t + ", ";
        CHECK.due(call + "0)", x.rain(yard, n, t, 0), above);
        CHECK.due(call + "1)", x.rain(yard, n, t, 1), below);
    }

    private static void rain() {
        // A meadow of 8 is thistle behind 4 days.
        RugWasField x = Check.of("pm80011;g01019;");
        rain(x, 0, 0, 2, 0, 1);
        rain(x, 0, 1, 2, 0, 1);
        rain(x, 0, 2, 3, 1, 9);
        rain(x, 0, 3, 2, 7, 8);
        rain(x, 0, 3, 4, 64 - 27, 64);
        rain(x, 0, 4, 20, 1, 1);
        rain(x, 1, 0, 20, 1, 1);
        rain(x, 2, 8, 20, 0, 1);
        // A turf is so behind 12: of 8 days at least 4 with rain.
        RugWasField y = Check.of("pt00011;");
        rain(y, 0, 8, 2, 163, 256);
        long atLeastFour = 70L * 19 * 19 * 19 * 19 + 56L * 19 * 19 * 19 + 28L * 19 * 19 + 8L * 19 + 1;
        // Five divides both: told in least terms.
        rain(y, 0, 8, 20, atLeastFour / 5, 25600000000L / 5);
        y.rolls(0);
        rain(y, 0, 8, 2, 0, 1);
        long refused = 4000000000000000000L;
        CHECK.due("rain(36, -1, 1, 2)", x.rain(36, -1, 1, 2), refused + 1);
        CHECK.due("rain(-1, 0, 2, 0)", x.rain(-1, 0, 2, 0), refused + 1);
        CHECK.due("rain(0, -1, 21, 2)", x.rain(0, -1, 21, 2), refused + 4);
        CHECK.due("rain(0, 9, 1, 2)", x.rain(0, 9, 1, 2), refused + 4);
        CHECK.due("rain(0, 9, 2, 2)", x.rain(0, 9, 2, 2), refused + 6);
        CHECK.due("rain(0, 8, 21, 2)", x.rain(0, 8, 21, 2), refused + 6);
        CHECK.due("rain(0, 8, 20, 2)", x.rain(0, 8, 20, 2), refused + 2);
        CHECK.due("rain(0, 8, 20, -1)", x.rain(0, 8, 20, -1), refused + 2);
        int[] refusals = {2, 2, 0, 2, 0, 2};
        for (int i = 0; i < refusals.length; i++) {
            CHECK.due("refusals " + (-1 - i), x.count(11 + i), refusals[i]);
        }
    }
}
