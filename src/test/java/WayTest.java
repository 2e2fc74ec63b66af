/** Promises 16 to 20 and 29: ways, what cuts and opens them, who is put away, two who roll. */
public final class WayTest {
    private static final Check CHECK = new Check("WayTest");
    /** A wall of thistles over the third row, with a gap in its last column. */
    private static final String WALL = "g12169;";

    public static void main(String[] args) {
        steps();
        reached();
        cut();
        opens();
        putAway();
        two();
        CHECK.finish();
    }

    private static void steps() {
        RugWasField x = Check.of(WALL + "ph00011;pp03511;r1;");
        CHECK.due("around the wall", x.steps(6, 18), 5 + 2 + 5);
        CHECK.due("and back", x.steps(18, 6), 12);
        CHECK.due("a yard to itself", x.steps(1, 1), 0);
        CHECK.due("beside", x.steps(6, 7), 1);
        CHECK.due("no way over the land's edge", x.steps(11, 18), 7);
        CHECK.due("from a hole", x.steps(0, 1), -9);
        CHECK.due("a hole to itself", x.steps(0, 0), -9);
        CHECK.due("to one rolled up", x.steps(29, 35), -9);
        CHECK.due("to a thistle", x.steps(6, 12), -9);
        x.makes(17, 9);
        CHECK.due("the wall closed", x.steps(6, 18), -9);
        CHECK.due("steps(-1, 0)", x.steps(-1, 0), -1);
        CHECK.due("steps(0, 36)", x.steps(0, 36), -1);
        RugWasField snake = Check.of("g06109;g19239;g30309;");
        CHECK.due("by a long way", snake.steps(0, 35), 5 + 2 + 5 + 2 + 5 + 1);
    }

    private static void reached() {
        RugWasField x = Check.of(WALL + "ph00011;");
        CHECK.due("itself", x.reached(14, 0), 0);
        CHECK.due("itself", x.reached(7, 0), 1);
        CHECK.due("one step", x.reached(7, 1), 1 + 3);
        CHECK.due("two steps", x.reached(7, 2), 1 + 3 + 2);
        CHECK.due("all", x.reached(7, 35), 36 - 5 - 1);
        CHECK.due("from a hole", x.reached(0, 35), 0);
        CHECK.due("the whole land", new RugWasField().reached(0, 35), 36);
        CHECK.due("the whole land but one", new RugWasField().reached(0, 9), 35);
        x.makes(17, 9);
        CHECK.due("above the wall", x.reached(7, 35), 11);
        CHECK.due("reached(36, -1)", x.reached(36, -1), -1);
        CHECK.due("reached(-1, 36)", x.reached(-1, 36), -1);
        CHECK.due("reached(7, -1)", x.reached(7, -1), -4);
        CHECK.due("reached(7, 36)", x.reached(7, 36), -6);
    }

    private static void cut() {
        RugWasField x = Check.of("pp01213;pp01512;pp01711;");
        CHECK.due("all three", x.cut(0, 35), 7);
        CHECK.due("one at the end", x.cut(0, 12), 1);
        CHECK.due("of several the least", x.cut(12, 17), 1);
        x.rolls(1);
        CHECK.due("one is rolled up now", x.cut(0, 35), 5);
        x.rolls(0);
        CHECK.due("none but one lies", x.cut(0, 35), 4);
        x.rolls(2);
        CHECK.due("no way now", x.cut(0, 35), 0);
        CHECK.due("none do", x.cut(0, 11), -9);
        RugWasField y = Check.of("pp01213;pp01513;pp02416;");
        CHECK.due("fewest, not least", y.cut(0, 35), 4);
        RugWasField six = Check.of("pp01211;pp01311;pp01411;pp01511;pp01611;pp01711;");
        CHECK.due("all six", six.cut(0, 35), 63);
        six.rolls(5);
        CHECK.due("all five", six.cut(0, 35), 31);
        CHECK.due("the last of six", six.opens(11, 23), 5);
        RugWasField z = Check.of("pp01213;pp01216;");
        CHECK.due("under another it still belongs to that", z.cut(0, 35), 3);
        CHECK.due("an end that is a thistle", Check.of("g00009;pp00111;").cut(0, 35), 0);
        CHECK.due("cut(0, 0)", x.cut(0, 0), -1);
        CHECK.due("cut(-1, 0)", x.cut(-1, 0), -1);
        CHECK.due("cut(0, 36)", x.cut(0, 36), -1);
        CHECK.due("lies as ahead", y.count(5), 0);
    }

    private static void opens() {
        RugWasField x = Check.of("pp01211;pp01311;pp01411;pp01513;r1;r2;g12129;");
        CHECK.due("way through 3 now", x.steps(6, 18), 3 + 2 + 3);
        CHECK.due("trod", x.opens(6, 18), 0);
        CHECK.due("laid out", x.opens(7, 19), 1);
        CHECK.due("fewer than now", x.opens(9, 21), -9);
        CHECK.due("laid out", x.opens(8, 20), 2);
        x.rolls(3);
        CHECK.due("no way is more than any", x.opens(11, 23), 3);
        CHECK.due("of several the least", Check.of("g12179;pp01411;pp01511;").opens(6, 35), 0);
        CHECK.due("the end itself", x.opens(12, 6), 0);
        RugWasField y = Check.of("pp01213;g12149;r0;");
        CHECK.due("laid out and trod both", y.opens(0, 12), 0);
        CHECK.due("an end in a hole", Check.of("ph00011;").opens(0, 1), -9);
        CHECK.due("nothing changed", y.count(5) + y.yard(12, 0), 1 + 9);
        CHECK.due("opens(0, 0)", x.opens(0, 0), -1);
        CHECK.due("opens(36, 0)", x.opens(36, 0), -1);
        CHECK.due("opens(0, -1)", x.opens(0, -1), -1);
    }

    private static void putAway() {
        // From 24 to 3 he goes up at first: 18, 12, 6, 0, then right: 1, 2, 3.
        RugWasField x = Check.of("pp02411;pp01811;pp01211;pp00611;pp00013;pp00311;");
        int[] where = {1, 2, 3, 4, 4, 4, 5, 5};
        for (int n = 1; n <= where.length; n++) {
            for (int piece = 0; piece < 6; piece++) {
                CHECK.due("putAway(24, 3, " + piece + ", " + n + ")", x.putAway(24, 3, piece, n), where[n - 1] == piece ? 1 : 0);
            }
        }
        CHECK.due("at the end he stands", x.putAway(24, 3, 5, 36), 1);
        // From 3 to 24: left at first, then down.
        CHECK.due("left ahead of down", x.putAway(3, 24, 4, 1), 1);
        CHECK.due("left ahead of down", x.putAway(3, 24, 4, 3), 1);
        CHECK.due("down then", x.putAway(3, 24, 3, 4), 1);
        // From 0 to 35: right ahead of down.
        CHECK.due("right ahead of down", x.putAway(0, 35, 5, 3), 1);
        CHECK.due("from a yard to itself", x.putAway(0, 0, 4, 1), 1);
        CHECK.due("from a yard to itself", x.putAway(0, 0, 3, 1), 0);
        // From 24 up is shut: he goes right, and up as soon as he can.
        x.rolls(1);
        CHECK.due("another way", x.putAway(24, 0, 2, 3), 0);
        CHECK.due("another way", x.putAway(24, 0, 4, 5), 1);
        CHECK.due("another way's end", x.putAway(24, 0, 4, 6), 1);
        CHECK.due("from one rolled up", x.putAway(18, 18, 1, 1), 0);
        x.makes(3, 9);
        CHECK.due("no way", x.putAway(24, 3, 0, 1), 0);
        CHECK.due("putAway(36, 0, 0, 0)", x.putAway(36, 0, 0, 0), -1);
        CHECK.due("putAway(0, -1, 0, 37)", x.putAway(0, -1, 0, 37), -1);
        CHECK.due("putAway(0, 1, 6, 1)", x.putAway(0, 1, 6, 1), -1);
        CHECK.due("putAway(0, 1, -1, 1)", x.putAway(0, 1, -1, 1), -1);
        CHECK.due("putAway(0, 1, 0, 0)", x.putAway(0, 1, 0, 0), -4);
        CHECK.due("putAway(0, 1, 0, 37)", x.putAway(0, 1, 0, 37), -6);
    }

    private static void two() {
        RugWasField x = Check.of("pp01213;pp01513;");
        // a is for few steps, b for many: b rolls up, and a stays.
        CHECK.due("b's way is the longer", x.two(0, 1, 6, 18), 0);
        CHECK.due("b on the short way", x.two(1, 0, 6, 18), 1);
        x.rolls(1);
        CHECK.due("a rolled up on the only way", x.two(1, 0, 11, 23), 10);
        x.rolls(0);
        // None lies: a opens his own, b leaves his.
        CHECK.due("a opens", x.two(0, 1, 6, 18), 10);
        CHECK.due("rolled as ahead", x.count(5), 3);
        RugWasField apart = Check.of("pp01213;pp00511;");
        CHECK.due("a changes nothing", apart.two(1, 0, 6, 18), 1);
        CHECK.due("b changes nothing", apart.two(0, 1, 6, 18), 0);
        // Two gaps as good as each other, a's rolled up: he lays it out lest b shut the other.
        RugWasField gaps = Check.of("pp01411;pp01511;g12139;g16179;r0;");
        CHECK.due("a lays out, b leaves it", gaps.two(0, 1, 8, 21), 10);
        RugWasField y = Check.of("g12179;pp03011;pp03511;");
        CHECK.due("nothing helps", y.two(0, 1, 0, 35), 0);
        RugWasField z = Check.of("g12179;pp01211;pp00411;r0;t1;");
        CHECK.due("thistle in a's", z.two(0, 1, 0, 18), 0);
        RugWasField both = Check.of("pp01213;pp01513;r0;");
        CHECK.due("a lays out, b rolls up", both.two(0, 1, 11, 23), 11);
        CHECK.due("two(0, 0, 0, 1)", both.two(0, 0, 0, 1), -1);
        CHECK.due("two(0, 2, 0, 1)", both.two(0, 2, 0, 1), -1);
        CHECK.due("two(-1, 1, 0, 1)", both.two(-1, 1, 0, 1), -1);
        CHECK.due("two(0, 1, 0, 36)", both.two(0, 1, 0, 36), -1);
        CHECK.due("two(0, 1, -1, 0)", both.two(0, 1, -1, 0), -1);
        CHECK.due("two(0, 1, 5, 5)", both.two(0, 1, 5, 5), -1);
    }
}
